/-! what a text, so far, is read as -/
def PE (u v : pv_T) : Prop := (v.1 0 = u.1 0 ∧ v.1 1 = u.1 1 ∧ v.1 2 = u.1 2 ∧ v.1 3 = u.1 3) ∧ (∀ i, i < 5 → v.2 0 i = u.2 0 i) ∧ (∀ c i, 1 ≤ c → c ≤ 4 → i < u.1 0 → v.2 c i = u.2 c i) ∧ (∀ c i, 5 ≤ c → c ≤ 7 → i < u.1 1 → v.2 c i = u.2 c i) ∧ (∀ i, i < 26 → v.2 8 i = u.2 8 i) ∧ ∀ q, q < u.1 2 → v.2 14 (8 * q) = 112 + q
/-- bytes -/
def TRg (l : List Int) : Prop := ∀ i, i < l.length → 0 ≤ l.getD i 0 ∧ l.getD i 0 ≤ 127
def Par (T : List Int) (u : pv_T) (g : G3) (n : Nat) : Prop := TRg T ∧ ∀ b : bfT, T.length ≤ b.1 → (∀ i, i < T.length → b.2 i = T.getD i 0) → ∃ v, PE u v ∧ ∀ m, sTxt b (m + n) v0 g0 (tkA b 0) = sTxt b m v g (tkA b T.length)
/-- letters more -/
def namU (u : pv_T) (L : List Int) : pv_T := namV u (fun i => L.getD i 0) L.length
section PAR
variable {T S L : List Int} {u u' v : pv_T} {g g' : G3} {n r d rt hd x y z k : Nat} {c : Int}
theorem PE.rf0 : PE v0 v0 := ⟨⟨rfl, rfl, rfl, rfl⟩, fun _ _ => rfl, fun _ _ _ _ _ => rfl, fun _ _ _ _ _ => rfl, fun _ _ => rfl, fun q hq => absurd hq (Nat.not_lt_zero q)⟩
theorem TRg.nil : TRg [] := fun i hi => absurd hi (Nat.not_lt_zero i)
theorem TRg.app {l1 l2 : List Int} (h1 : TRg l1) (h2 : TRg l2) : TRg (l1 ++ l2) := fun i hi => by
  rw [List.length_append] at hi
  rw [gD_app]
  by_cases e : i < l1.length
  · rw [if_pos e]
    exact h1 i e
  · rw [if_neg e]
    exact h2 _ (by omega)
theorem TRg.tx {t : Nat} (ht : t < 22) : TRg (txI t) := fun i hi => by
  have key : ∀ t, t < 22 → ∀ i, i < 10 → 0 ≤ ((am_tx t).getD i 0).toInt ∧ ((am_tx t).getD i 0).toInt ≤ 127 := by decide +kernel
  have h1 := tx_ln t ht
  rw [txI_len] at hi
  rw [txI_D]
  exact key t ht i (by omega)
theorem TRg.dg {x : Nat} (hx : x < 1000) : TRg (dg x) := fun i hi => by
  have := dg_r hx hi
  omega
theorem TRg.one {c : Int} (hc : 0 ≤ c ∧ c ≤ 127) : TRg [c] := fun i hi => by
  have hi : i < 1 := hi
  obtain rfl : i = 0 := by omega
  exact hc
theorem Par.nil : Par [] v0 g0 0 := ⟨TRg.nil, fun b _ _ => ⟨v0, PE.rf0, fun m => rfl⟩⟩
theorem Par.st (P : Par T u g n) (hr : TRg S) (hS : ∀ b v p, PE u v → At b p S → ∃ v', PE u' v' ∧ sStt b v g (tkA b p) = .inr (v', g', tkA b (p + S.length)) ∧ (tkA b p).1 ≠ 0) : Par (T ++ S) u' g' (n + 1) := by
  refine ⟨P.1.app hr, fun b h1 h2 => ?_⟩
  rw [List.length_append] at h1 h2
  obtain ⟨v, pe, hv⟩ := P.2 b (by omega) (fun i hi => by rw [h2 i (by omega), gD_app, if_pos hi])
  obtain ⟨v', pe', e1, e2⟩ := hS b v T.length pe ⟨by omega, fun i hi => by rw [h2 (T.length + i) (by omega), gD_app, if_neg (by omega), show T.length + i - T.length = i by omega]⟩
  refine ⟨v', pe', fun m => ?_⟩
  rw [show m + (n + 1) = (m + 1) + n by omega, hv (m + 1)]
  show (if (tkA b T.length).1 = 0 then (.inr v : Rs pv_T) else (sStt b v g (tkA b T.length)).bd (fun x => sTxt b m x.1 x.2.1 x.2.2)) = _
  rw [if_neg e2, e1, bd_rr, List.length_append]
theorem PE.arc (h : PE u v) : PE (arcV u r d rt hd) (arcV v r d rt hd) := by
  obtain ⟨⟨h0, h1, h2, h3⟩, h4, h5, h6, h7, h8⟩ := h
  refine ⟨⟨by show v.1 0 + 1 = u.1 0 + 1; omega, h1, h2, h3⟩, h4, fun c i c1 c2 hi => ?_, fun c i c1 c2 hi => ?_, h7, h8⟩
  · have hi : i < u.1 0 + 1 := hi
    have key : ∀ (t : Int) (c : Nat), 1 ≤ c → c ≤ 4 → (if i = v.1 0 then t else v.2 c i) = (if i = u.1 0 then t else u.2 c i) := fun t c c1 c2 => by
      by_cases e : i = u.1 0
      · rw [if_pos (by omega), if_pos e]
      · rw [if_neg (by omega), if_neg e]
        exact h5 c i c1 c2 (by omega)
    rcases (show c = 1 ∨ c = 2 ∨ c = 3 ∨ c = 4 by omega) with rfl | rfl | rfl | rfl
    · exact key r 1 c1 c2
    · exact key d 2 c1 c2
    · exact key rt 3 c1 c2
    · exact key hd 4 c1 c2
  · rcases (show c = 5 ∨ c = 6 ∨ c = 7 by omega) with rfl | rfl | rfl
    · exact h6 5 i c1 c2 hi
    · exact h6 6 i c1 c2 hi
    · exact h6 7 i c1 c2 hi
theorem Par.arc (P : Par T u g n) (hr : 1 ≤ r ∧ r ≤ 99) (hd1 : 1 ≤ d ∧ d ≤ 180) (hrt : rt ≤ 1) (hh : hd ≤ 99) (hv : u.1 0 < 8) : Par (T ++ arcT r d rt hd) (arcV u r d rt hd) g (n + 1) := P.st ((TRg.tx (by omega)).app ((TRg.dg (by omega)).app ((TRg.tx (by omega)).app ((TRg.dg (by omega)).app ((by
    split
    · exact TRg.tx (by omega)
    · exact TRg.nil : TRg (if rt = 1 then txI 12 else [])).app ((by
    split
    · exact TRg.nil
    · exact (TRg.tx (by omega)).app (TRg.dg (by omega)) : TRg (if hd = 30 then [] else txI 13 ++ dg hd)).app (TRg.tx (by omega)))))))) (fun b v p pe a => by
  obtain ⟨e1, e2⟩ := st_arc (g := g) hr hd1 hrt hh (v := v) (by rw [pe.1.1]; exact hv) a
  exact ⟨_, pe.arc, e1, e2⟩)
theorem PE.nam (h : PE u v) {f : Nat → Int} (hf : ∀ i, i < L.length → f i = L.getD i 0) : PE (namU u L) (namV v f L.length) := by
  obtain ⟨⟨h0, h1, h2, h3⟩, h4, h5, h6, h7, h8⟩ := h
  refine ⟨⟨h0, by show v.1 1 + L.length = u.1 1 + L.length; omega, h2, h3⟩, fun i hi => h4 i hi, fun c i c1 c2 hi => ?_, fun c i c1 c2 hi => ?_, fun i hi => h7 i hi, fun q hq => ?_⟩
  · show (if c = 5 ∧ v.1 1 ≤ i then f (i - v.1 1) - 97 else if (c = 6 ∨ c = 7) ∧ v.1 1 ≤ i then 0 else v.2 c i) = (if c = 5 ∧ u.1 1 ≤ i then L.getD (i - u.1 1) 0 - 97 else if (c = 6 ∨ c = 7) ∧ u.1 1 ≤ i then 0 else u.2 c i)
    rw [if_neg (by omega), if_neg (by omega), if_neg (by omega), if_neg (by omega)]
    exact h5 c i c1 c2 hi
  · have hi : i < u.1 1 + L.length := hi
    show (if c = 5 ∧ v.1 1 ≤ i then f (i - v.1 1) - 97 else if (c = 6 ∨ c = 7) ∧ v.1 1 ≤ i then 0 else v.2 c i) = (if c = 5 ∧ u.1 1 ≤ i then L.getD (i - u.1 1) 0 - 97 else if (c = 6 ∨ c = 7) ∧ u.1 1 ≤ i then 0 else u.2 c i)
    by_cases e : u.1 1 ≤ i
    · by_cases e5 : c = 5
      · rw [if_pos ⟨e5, by omega⟩, if_pos ⟨e5, e⟩, h1, hf _ (by omega)]
      · rw [if_neg (show ¬ (c = 5 ∧ v.1 1 ≤ i) from fun t => e5 t.1), if_pos (show (c = 6 ∨ c = 7) ∧ v.1 1 ≤ i from ⟨by omega, by omega⟩), if_neg (show ¬ (c = 5 ∧ u.1 1 ≤ i) from fun t => e5 t.1), if_pos (show (c = 6 ∨ c = 7) ∧ u.1 1 ≤ i from ⟨by omega, e⟩)]
    · rw [if_neg (by omega), if_neg (by omega), if_neg (by omega), if_neg (by omega)]
      exact h6 c i c1 c2 (by omega)
  · have hq : q < u.1 2 := hq
    show (if 14 = 5 ∧ v.1 1 ≤ 8 * q then f (8 * q - v.1 1) - 97 else if (14 = 6 ∨ 14 = 7) ∧ v.1 1 ≤ 8 * q then 0 else v.2 14 (8 * q)) = _
    rw [if_neg (by omega), if_neg (by omega)]
    exact h8 q hq
theorem Par.nam (P : Par T u g n) (hL : 1 ≤ L.length ∧ L.length ≤ 8) (hc : ∀ i, i < L.length → 97 ≤ L.getD i 0 ∧ L.getD i 0 ≤ 122) (hv : u.1 1 + L.length ≤ 20) : Par (T ++ namT L) (namU u L) g (n + 1) := P.st ((TRg.tx (by omega)).app (TRg.app (l1 := L) (fun i hi => by have := hc i hi; omega) (TRg.tx (by omega)))) (fun b v p pe a => by
  obtain ⟨e1, e2⟩ := st_nam (g := g) hL hc (v := v) (by rw [pe.1.2.1]; exact hv) a
  refine ⟨_, pe.nam (fun i hi => ?_), e1, e2⟩
  unfold namT at a
  obtain ⟨-, a2⟩ := a.app
  exact (a2.app.1).2 i hi)
theorem PE.wid (h : PE u v) {w : Int} : PE (pu u 8 k w) (pu v 8 k w) := by
  obtain ⟨h0, h4, h5, h6, h7, h8⟩ := h
  refine ⟨h0, h4, fun c i c1 c2 hi => ?_, fun c i c1 c2 hi => ?_, fun i hi => ?_, h8⟩
  · rw [pu_o (by omega), pu_o (by omega)]
    exact h5 c i c1 c2 hi
  · rw [pu_o (by omega), pu_o (by omega)]
    exact h6 c i c1 c2 hi
  · by_cases e : i = k
    · rw [e, pu_s, pu_s]
    · rw [pu_i e, pu_i e]
      exact h7 i hi
theorem Par.wid (P : Par T u g n) (hk : k < 26) (hx : 1 ≤ x ∧ x ≤ 99) : Par (T ++ widT (97 + (k : Int)) x) (pu u 8 k x) g (n + 1) := P.st ((TRg.tx (by omega)).app ((TRg.one (by omega)).app ((TRg.tx (by omega)).app ((TRg.dg (by omega)).app (TRg.tx (by omega)))))) (fun b v p pe a => by
  obtain ⟨e1, e2⟩ := st_wid (v := v) (g := g) (by omega) hx a
  rw [show (97 + (k : Int) - 97).toNat = k by omega] at e1
  exact ⟨_, pe.wid, e1, e2⟩)
theorem PE.kin (h : PE u v) {f : Nat → Int} (hf : f 0 = 112 + (u.1 2 : Int)) : PE (pn u 2 (u.1 2 + 1)) (kinV v f x y z) := by
  obtain ⟨⟨h0, h1, h2, h3⟩, h4, h5, h6, h7, h8⟩ := h
  have key : ∀ c i, c ≠ 9 → c ≠ 10 → c ≠ 11 → c ≠ 14 → (kinV v f x y z).2 c i = v.2 c i := fun c i n1 n2 n3 n4 => by
    show (pu (pu (pu (nmV v f) 9 (v.1 2) x) 10 (v.1 2) y) 11 (v.1 2) z).2 c i = _
    rw [pu_o n3, pu_o n2, pu_o n1]
    exact if_neg (fun t => n4 t.1)
  refine ⟨⟨h0, h1, by show v.1 2 + 1 = u.1 2 + 1; omega, h3⟩, fun i hi => ?_, fun c i c1 c2 hi => ?_, fun c i c1 c2 hi => ?_, fun i hi => ?_, fun q hq => ?_⟩
  · rw [key 0 i (by omega) (by omega) (by omega) (by omega)]
    exact h4 i hi
  · rw [key c i (by omega) (by omega) (by omega) (by omega)]
    exact h5 c i c1 c2 hi
  · rw [key c i (by omega) (by omega) (by omega) (by omega)]
    exact h6 c i c1 c2 hi
  · rw [key 8 i (by omega) (by omega) (by omega) (by omega)]
    exact h7 i hi
  · have hq : q < u.1 2 + 1 := hq
    show (pu (pu (pu (nmV v f) 9 (v.1 2) x) 10 (v.1 2) y) 11 (v.1 2) z).2 14 (8 * q) = _
    rw [pu_o (by omega), pu_o (by omega), pu_o (by omega)]
    show (if 14 = 14 ∧ 8 * v.1 2 ≤ 8 * q then f (8 * q - 8 * v.1 2) else v.2 14 (8 * q)) = _
    by_cases e : q = u.1 2
    · rw [if_pos ⟨rfl, by omega⟩, show 8 * q - 8 * v.1 2 = 0 by omega, hf, e]
    · rw [if_neg (by omega)]
      exact h8 q (by omega)
theorem Par.kin (P : Par T u g n) (hx : 1 ≤ x ∧ x ≤ 99) (hy : 1 ≤ y ∧ y ≤ 99) (hz : 1 ≤ z ∧ z ≤ 9) (hv : u.1 2 < 6) : Par (T ++ floT (112 + (u.1 2 : Int)) x y z) (pn u 2 (u.1 2 + 1)) g (n + 1) := P.st ((TRg.tx (by omega)).app ((TRg.one (by omega)).app ((TRg.dg (by omega)).app ((TRg.tx (by omega)).app ((TRg.dg (by omega)).app ((TRg.tx (by omega)).app ((TRg.dg (by omega)).app (TRg.tx (by omega))))))))) (fun b v p pe a => by
  obtain ⟨f, ef, e1, e2⟩ := st_flo (v := v) (g := g) (by omega) hx hy hz (by rw [pe.1.2.2.1]; exact hv) (fun q hq => by rw [pe.2.2.2.2.2 q (by rw [← pe.1.2.2.1]; exact hq)]; have := pe.1.2.2.1; omega) a
  exact ⟨_, pe.kin ef, e1, e2⟩)
theorem PE.num (h : PE u v) {w : Int} : PE (pu u 0 k w) (pu v 0 k w) := by
  obtain ⟨h0, h4, h5, h6, h7, h8⟩ := h
  refine ⟨h0, fun i hi => ?_, fun c i c1 c2 hi => ?_, fun c i c1 c2 hi => ?_, fun i hi => ?_, fun q hq => ?_⟩
  · by_cases e : i = k
    · rw [e, pu_s, pu_s]
    · rw [pu_i e, pu_i e]
      exact h4 i hi
  · rw [pu_o (by omega), pu_o (by omega)]
    exact h5 c i c1 c2 hi
  · rw [pu_o (by omega), pu_o (by omega)]
    exact h6 c i c1 c2 hi
  · rw [pu_o (by omega), pu_o (by omega)]
    exact h7 i hi
  · rw [pu_o (by omega)]
    exact h8 q hq
theorem Par.see (P : Par T u g n) (hx : x ≤ 999) (hg : g.1 = false) : Par (T ++ (txI 19 ++ (dg x ++ txI 16))) (pu u 0 2 x) (true, g.2) (n + 1) := P.st ((TRg.tx (by omega)).app ((TRg.dg (by omega)).app (TRg.tx (by omega)))) (fun b v p pe a => by
  obtain ⟨e1, e2⟩ := st_see (v := v) hx hg a
  exact ⟨_, pe.num, e1, e2⟩)
theorem Par.sha (P : Par T u g n) (hx : 1 ≤ x ∧ x ≤ 99) (hg : g.2.1 = false) : Par (T ++ (txI 20 ++ (dg x ++ txI 16))) (pu u 0 0 x) (g.1, true, g.2.2) (n + 1) := P.st ((TRg.tx (by omega)).app ((TRg.dg (by omega)).app (TRg.tx (by omega)))) (fun b v p pe a => by
  obtain ⟨e1, e2⟩ := st_sha (v := v) hx hg a
  exact ⟨_, pe.num, e1, e2⟩)
theorem Par.mar (P : Par T u g n) (hx : x ≤ 99) (hg : g.2.2 = false) : Par (T ++ (txI 21 ++ (dg x ++ txI 16))) (pu u 0 1 x) (g.1, g.2.1, true) (n + 1) := P.st ((TRg.tx (by omega)).app ((TRg.dg (by omega)).app (TRg.tx (by omega)))) (fun b v p pe a => by
  obtain ⟨e1, e2⟩ := st_mar (v := v) hx hg a
  exact ⟨_, pe.num, e1, e2⟩)
/-- the whole text is read -/
theorem Par.rd (P : Par T u g n) (hn : n < 500) {b : bfT} (h1 : b.1 = T.length) (h2 : ∀ i, i < T.length → b.2 i = T.getD i 0) : ∃ v, PE u v ∧ sTxt b 500 v0 g0 (tkA b 0) = .inr v := by
  obtain ⟨v, pe, hv⟩ := P.2 b (by omega) h2
  refine ⟨v, pe, ?_⟩
  obtain ⟨m, hm⟩ : ∃ m, 500 = (m + 1) + n := ⟨499 - n, by omega⟩
  rw [hm, hv (m + 1), ← h1, tk_e]
  rfl
end PAR
section PRW
variable {X : dm_X} {d d' : dm_D} {w : Nat} {u u' v : pv_T} {tx : am_v} {N : Nat → Nat} {M : Nat → Int32} {E : Nat → am_G × Nat} {F : Nat → Nat → Nat}
theorem WR.pe (R : WR d w u tx N M E F) (h : PE u v) (h3 : u.1 3 = 0) : WR d w v tx N M E F := by
  obtain ⟨⟨e0, e1, e2, e3⟩, h4, h5, h6, h7, -⟩ := h
  obtain ⟨r1, ⟨f, r2, r3⟩, ⟨l1, l2, l3, l4⟩, r8, r9, r10, r11, r12, r13, r14⟩ := R
  unfold WR
  rw [e0, e1, e2, e3, h4 0 (by omega), h4 1 (by omega), h4 2 (by omega), h4 3 (by omega), h4 4 (by omega)]
  refine ⟨r1, ⟨f, r2, fun i hi => by rw [h7 i hi]; exact r3 i hi⟩, ⟨l1, l2, l3, l4⟩, fun i hi => ?_, fun i hi => ?_, fun i hi => by omega, r11, r12, r13, r14⟩
  · rw [h5 1 i (by omega) (by omega) hi, h5 2 i (by omega) (by omega) hi, h5 3 i (by omega) (by omega) hi, h5 4 i (by omega) (by omega) hi]
    exact r8 i hi
  · rw [h6 5 i (by omega) (by omega) hi, h6 6 i (by omega) (by omega) hi, h6 7 i (by omega) (by omega) hi]
    exact r9 i hi
/-- a name is begun -/
theorem PW.n0 (R : PW d w u tx N M E F) : PW d w (namU u []) tx N M E F := by
  obtain ⟨r1, r2, r4, r5, r6, r7, r8, r9, r10, r11⟩ := R
  refine ⟨r1, r2, fun k hk => ?_, r5, r6, r7, fun i hi => ?_, r9, r10, r11⟩
  · rcases (show k = 0 ∨ k = 1 ∨ k = 2 ∨ k = 3 by omega) with rfl | rfl | rfl | rfl
    · exact r4 0 hk
    · exact r4 1 hk
    · exact r4 2 hk
    · exact r4 3 hk
  · have hi : i < u.1 1 := hi
    have e5 : (namU u []).2 5 i = u.2 5 i := by
      show (if 5 = 5 ∧ u.1 1 ≤ i then ([] : List Int).getD (i - u.1 1) 0 - 97 else if (5 = 6 ∨ 5 = 7) ∧ u.1 1 ≤ i then 0 else u.2 5 i) = _
      rw [if_neg (by omega), if_neg (by omega)]
    have e6 : (namU u []).2 6 i = u.2 6 i := by
      show (if 6 = 5 ∧ u.1 1 ≤ i then ([] : List Int).getD (i - u.1 1) 0 - 97 else if (6 = 6 ∨ 6 = 7) ∧ u.1 1 ≤ i then 0 else u.2 6 i) = _
      rw [if_neg (by omega), if_neg (by omega)]
    have e7 : (namU u []).2 7 i = u.2 7 i := by
      show (if 7 = 5 ∧ u.1 1 ≤ i then ([] : List Int).getD (i - u.1 1) 0 - 97 else if (7 = 6 ∨ 7 = 7) ∧ u.1 1 ≤ i then 0 else u.2 7 i) = _
      rw [if_neg (by omega), if_neg (by omega)]
    rw [e5, e6, e7]
    exact r8 i hi
end PRW
