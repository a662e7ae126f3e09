/-! a text's statements -/
def arcV (v : pv_T) (r d rt hd : Int) : pv_T := pn (pu (pu (pu (pu v 1 (v.1 0) r) 2 (v.1 0) d) 3 (v.1 0) rt) 4 (v.1 0) hd) 0 (v.1 0 + 1)
def namV (v : pv_T) (f : Nat → Int) (n : Nat) : pv_T := (fun k => if k = 1 then v.1 1 + n else v.1 k, fun c i => if c = 5 ∧ v.1 1 ≤ i then f (i - v.1 1) - 97 else if (c = 6 ∨ c = 7) ∧ v.1 1 ≤ i then 0 else v.2 c i)
def widV (v : pv_T) (f : Nat → Int) (w : Int) : Nat → pv_T
  | 0 => v
  | n + 1 => pu (widV v f w n) 8 (f n - 97).toNat w
def nmV (v : pv_T) (f : Nat → Int) : pv_T := (v.1, fun c i => if c = 14 ∧ 8 * v.1 2 ≤ i then f (i - 8 * v.1 2) else v.2 c i)
def kinV (v : pv_T) (f : Nat → Int) (w wo sk : Int) : pv_T := pn (pu (pu (pu (nmV v f) 9 (v.1 2) w) 10 (v.1 2) wo) 11 (v.1 2) sk) 2 (v.1 2 + 1)
abbrev wdF (b : bfT) (T : Tk) : Nat → Int := fun i => b.2 (T.2.1 + i)
abbrev wdZ (b : bfT) (T : Tk) : Nat → Int := fun i => if i < T.2.2 - T.2.1 then b.2 (T.2.1 + i) else 0
def eqB (f g : Nat → Int) : Nat → Bool
  | 0 => true
  | n + 1 => eqB f g n && decide (f n = g n)
theorem eqB_i {f g : Nat → Int} : ∀ {n : Nat}, eqB f g n = true ↔ ∀ i, i < n → f i = g i
  | 0 => ⟨fun _ i hi => absurd hi (Nat.not_lt_zero i), fun _ => rfl⟩
  | n + 1 => by
    show (eqB f g n && decide (f n = g n)) = true ↔ _
    rw [Bool.and_eq_true, decide_eq_true_eq, eqB_i (n := n)]
    refine ⟨fun z i hi => ?_, fun z => ⟨fun i hi => z i (by omega), z n (by omega)⟩⟩
    by_cases c : i = n
    · subst c; exact z.2
    · exact z.1 i (by omega)
def takB (v : pv_T) (f : Nat → Int) : Nat → Bool
  | 0 => false
  | n + 1 => takB v f n || eqB (fun i => v.2 14 (8 * n + i)) f 8
def takN (v : pv_T) (f : Nat → Int) : Bool := takB v f (v.1 2)
theorem takB_i {v : pv_T} {f : Nat → Int} : ∀ {n : Nat}, takB v f n = true ↔ ∃ q, q < n ∧ ∀ i, i < 8 → v.2 14 (8 * q + i) = f i
  | 0 => ⟨fun z => (by cases z), fun ⟨q, hq, _⟩ => absurd hq (Nat.not_lt_zero q)⟩
  | n + 1 => by
    show (takB v f n || eqB (fun i => v.2 14 (8 * n + i)) f 8) = true ↔ _
    rw [Bool.or_eq_true, eqB_i, takB_i (n := n)]
    refine ⟨fun z => ?_, fun ⟨q, hq, t⟩ => ?_⟩
    · rcases z with ⟨q, hq, t⟩ | t
      · exact ⟨q, by omega, t⟩
      · exact ⟨n, by omega, t⟩
    · by_cases c : q = n
      · subst c; exact Or.inr t
      · exact Or.inl ⟨q, by omega, t⟩
theorem takN_i {v : pv_T} {f : Nat → Int} : takN v f = true ↔ ∃ q, q < v.1 2 ∧ ∀ i, i < 8 → v.2 14 (8 * q + i) = f i := takB_i
def sArc (b : bfT) (v : pv_T) (T : Tk) : Rs (pv_T × Tk) := if 8 ≤ v.1 0 then .inl (5, (T.2.1 : Int)) else
  (sNum b (tkA b T.2.2) 1 99).bd (fun x1 => (sNum b x1.2 1 180).bd (fun x2 =>
    if isW b (adW b x2.2 7) 8 = true then (sNum b (tkA b (adW b x2.2 7).2.2) 0 99).bd (fun x3 => .inr (arcV v x1.1 x2.1 (bI (isW b x2.2 7 = true)) x3.1, x3.2))
    else .inr (arcV v x1.1 x2.1 (bI (isW b x2.2 7 = true)) 30, adW b x2.2 7)))
def sName (b : bfT) (v : pv_T) (T : Tk) : Rs (pv_T × Tk) := if (tkA b T.2.2).1 = 1 then
  (if v.1 1 + ((tkA b T.2.2).2.2 - (tkA b T.2.2).2.1) ≤ 20 then .inr (namV v (wdF b (tkA b T.2.2)) ((tkA b T.2.2).2.2 - (tkA b T.2.2).2.1), tkA b (tkA b T.2.2).2.2) else .inl (5, ((tkA b T.2.2).2.1 : Int)))
  else .inl (1, ((tkA b T.2.2).2.1 : Int))
def sWide (b : bfT) (v : pv_T) (T : Tk) : Rs (pv_T × Tk) := if (tkA b T.2.2).1 = 1 then
  (sNum b (tkA b (tkA b T.2.2).2.2) 1 99).bd (fun x => .inr (widV v (wdF b (tkA b T.2.2)) x.1 ((tkA b T.2.2).2.2 - (tkA b T.2.2).2.1), x.2))
  else .inl (1, ((tkA b T.2.2).2.1 : Int))
def sFlo (b : bfT) (v : pv_T) (T : Tk) : Rs (pv_T × Tk) := if 6 ≤ v.1 2 then .inl (5, (T.2.1 : Int)) else if (tkA b T.2.2).1 = 1 then
  (if takN v (wdZ b (tkA b T.2.2)) = true then .inl (3, ((tkA b T.2.2).2.1 : Int)) else
    (sNum b (tkA b (tkA b T.2.2).2.2) 1 99).bd (fun x1 => (sNum b x1.2 1 99).bd (fun x2 => (sNum b x2.2 1 9).bd (fun x3 => .inr (kinV v (wdZ b (tkA b T.2.2)) x1.1 x2.1 x3.1, x3.2)))))
  else .inl (1, ((tkA b T.2.2).2.1 : Int))
def sOnc (b : bfT) (v : pv_T) (told : Bool) (c : Nat) (lo hi : Int) (T : Tk) : Rs (pv_T × Tk) := if told = true then .inl (3, (T.2.1 : Int)) else (sNum b (tkA b T.2.2) lo hi).bd (fun x => .inr (pu v 0 c x.1, x.2))
abbrev G3 : Type := Bool × Bool × Bool
def sStm (b : bfT) (v : pv_T) (g : G3) (T : Tk) : Rs (pv_T × G3 × Tk) :=
  if isW b T 0 = true then (sArc b v T).bd (fun x => .inr (x.1, g, x.2))
  else if isW b T 1 = true then (sName b v T).bd (fun x => .inr (x.1, g, x.2))
  else if isW b T 2 = true then (sWide b v T).bd (fun x => .inr (x.1, g, x.2))
  else if isW b T 3 = true then (sFlo b v T).bd (fun x => .inr (x.1, g, x.2))
  else if isW b T 4 = true then (sOnc b v g.1 2 0 999 T).bd (fun x => .inr (x.1, (true, g.2), x.2))
  else if isW b T 5 = true then (sOnc b v g.2.1 0 1 99 T).bd (fun x => .inr (x.1, (g.1, true, g.2.2), x.2))
  else if isW b T 6 = true then (sOnc b v g.2.2 1 0 99 T).bd (fun x => .inr (x.1, (g.1, g.2.1, true), x.2))
  else .inl (1, (T.2.1 : Int))
def sStt (b : bfT) (v : pv_T) (g : G3) (T : Tk) : Rs (pv_T × G3 × Tk) := (sStm b v g T).bd (fun x => (sSign b x.2.2 59).bd (fun T' => .inr (x.1, x.2.1, T')))
def sTxt (b : bfT) : Nat → pv_T → G3 → Tk → Rs pv_T
  | 0, v, _, _ => .inr v
  | n + 1, v, g, T => if T.1 = 0 then .inr v else (sStt b v g T).bd (fun x => sTxt b n x.1 x.2.1 x.2.2)
/-! what they keep -/
theorem Rs.bd_r {X Y : Type} {r : Rs X} {s : X → Rs Y} {y : Y} (e : r.bd s = .inr y) : ∃ x, r = .inr x ∧ s x = .inr y := by
  cases r with
  | inl q => cases e
  | inr x => exact ⟨x, rfl, e⟩
theorem sNum_ok {b : bfT} {T : Tk} {lo hi : Int} {x : Int × Tk} (hT : tk_ok b T) (e : sNum b T lo hi = .inr x) : tk_ok b x.2 ∧ T.2.1 < x.2.2.1 ∧ lo ≤ x.1 ∧ x.1 ≤ hi := by
  unfold sNum at e
  by_cases c : T.1 = 2
  · rw [if_pos c] at e
    by_cases d : lo ≤ nvT b T ∧ nvT b T ≤ hi
    · rw [if_pos d] at e
      cases e
      have h1 := tkA_ok hT.2.2.1
      have h2 := hT.2.2.2.2.1 (by omega)
      exact ⟨h1.1, by show T.2.1 < (tkA b T.2.2).2.1; omega, d.1, d.2⟩
    · rw [if_neg d] at e; cases e
  · rw [if_neg c] at e; cases e
theorem sSign_ok {b : bfT} {T T' : Tk} {c : Int} (hT : tk_ok b T) (e : sSign b T c = .inr T') : tk_ok b T' ∧ T.2.1 < T'.2.1 := by
  unfold sSign at e
  by_cases d : T.1 = 3 ∧ b.2 T.2.1 = c
  · rw [if_pos d] at e
    cases e
    have h1 := tkA_ok hT.2.2.1
    have h2 := hT.2.2.2.2.1 (by omega)
    exact ⟨h1.1, by omega⟩
  · rw [if_neg d] at e; cases e
theorem isW_1 {b : bfT} {T : Tk} {t : Nat} (e : isW b T t = true) : T.1 = 1 := (of_decide_eq_true e).1
theorem adv_ok {b : bfT} {T : Tk} (hT : tk_ok b T) : tk_ok b (tkA b T.2.2) ∧ T.2.1 ≤ (tkA b T.2.2).2.1 := by
  have := tkA_ok hT.2.2.1
  exact ⟨this.1, Nat.le_trans hT.2.1 this.2⟩
/-- a plate that a text makes: no scratch, nothing engraved -/
def pvZ (v : pv_T) : Prop := pvA v ∧ v.1 3 = 0
theorem arcV_Z {v : pv_T} {r d rt hd : Int} (hv : pvZ v) (h8 : v.1 0 < 8) (hr : 1 ≤ r ∧ r ≤ 99) (hd' : 1 ≤ d ∧ d ≤ 180) (ht : 0 ≤ rt ∧ rt ≤ 1) (hh : 0 ≤ hd ∧ hd ≤ 99) : pvZ (arcV v r d rt hd) := by
  obtain ⟨⟨⟨g1, g2, g3, g4, g5, g6, g7⟩, g8, g9⟩, gz⟩ := hv
  have a1 : ∀ i, (arcV v r d rt hd).2 1 i = if i = v.1 0 then r else v.2 1 i := fun i => rfl
  have a2 : ∀ i, (arcV v r d rt hd).2 2 i = if i = v.1 0 then d else v.2 2 i := fun i => rfl
  have a3 : ∀ i, (arcV v r d rt hd).2 3 i = if i = v.1 0 then rt else v.2 3 i := fun i => rfl
  have a4 : ∀ i, (arcV v r d rt hd).2 4 i = if i = v.1 0 then hd else v.2 4 i := fun i => rfl
  refine ⟨⟨⟨⟨?_, g1.2.1, g1.2.2.1, g1.2.2.2⟩, fun i hi => ?_, g3, g4, g5, g6, g7⟩, fun i hi => ?_, g9⟩, gz⟩
  · show v.1 0 + 1 ≤ 8; omega
  · have hi' : i < v.1 0 + 1 := hi
    rw [a1, a2, a3, a4]
    by_cases c : i = v.1 0
    · rw [if_pos c, if_pos c, if_pos c, if_pos c]; omega
    · rw [if_neg c, if_neg c, if_neg c, if_neg c]; exact g2 i (by omega)
  · have hi' : i < v.1 0 + 1 := hi
    rw [a1]
    by_cases c : i = v.1 0
    · rw [if_pos c]; omega
    · rw [if_neg c]; exact g8 i (by omega)
theorem namV_Z {v : pv_T} {f : Nat → Int} {n : Nat} (hv : pvZ v) (h20 : v.1 1 + n ≤ 20) (hf : ∀ i, i < n → 97 ≤ f i ∧ f i ≤ 122) : pvZ (namV v f n) := by
  obtain ⟨⟨⟨g1, g2, g3, g4, g5, g6, g7⟩, g8, g9⟩, gz⟩ := hv
  have a5 : ∀ i, (namV v f n).2 5 i = if 5 = 5 ∧ v.1 1 ≤ i then f (i - v.1 1) - 97 else (if (5 = 6 ∨ 5 = 7) ∧ v.1 1 ≤ i then 0 else v.2 5 i) := fun i => rfl
  have a6 : ∀ i, (namV v f n).2 6 i = if 6 = 5 ∧ v.1 1 ≤ i then f (i - v.1 1) - 97 else (if (6 = 6 ∨ 6 = 7) ∧ v.1 1 ≤ i then 0 else v.2 6 i) := fun i => rfl
  have a7 : ∀ i, (namV v f n).2 7 i = if 7 = 5 ∧ v.1 1 ≤ i then f (i - v.1 1) - 97 else (if (7 = 6 ∨ 7 = 7) ∧ v.1 1 ≤ i then 0 else v.2 7 i) := fun i => rfl
  have ec : ∀ c, c ≠ 5 → c ≠ 6 → c ≠ 7 → (namV v f n).2 c = v.2 c := fun c h5 h6 h7 => by
    funext i
    show (if c = 5 ∧ v.1 1 ≤ i then _ else (if (c = 6 ∨ c = 7) ∧ v.1 1 ≤ i then _ else _)) = _
    rw [if_neg (by omega), if_neg (by omega)]
  refine ⟨⟨⟨⟨g1.1, ?_, g1.2.2.1, g1.2.2.2⟩, ?_, fun i hi => ?_, ?_, ?_, fun i hi => ?_, ?_⟩, ?_, ?_⟩, gz⟩
  · show v.1 1 + n ≤ 20; omega
  · rw [ec 1 (by omega) (by omega) (by omega), ec 2 (by omega) (by omega) (by omega), ec 3 (by omega) (by omega) (by omega), ec 4 (by omega) (by omega) (by omega)]; exact g2
  · have hi' : i < v.1 1 + n := hi
    rw [a5, a6, a7]
    by_cases c : v.1 1 ≤ i
    · have := hf (i - v.1 1) (by omega)
      rw [if_pos ⟨rfl, c⟩, if_neg (by omega), if_pos ⟨Or.inl rfl, c⟩, if_neg (by omega), if_pos ⟨Or.inr rfl, c⟩]
      omega
    · rw [if_neg (by omega), if_neg (by omega), if_neg (by omega), if_neg (by omega), if_neg (by omega), if_neg (by omega)]
      exact g3 i (by omega)
  · rw [ec 8 (by omega) (by omega) (by omega)]; exact g4
  · rw [ec 9 (by omega) (by omega) (by omega), ec 10 (by omega) (by omega) (by omega), ec 11 (by omega) (by omega) (by omega)]; exact g5
  · have hi' : i < v.1 3 := hi
    omega
  · rw [ec 0 (by omega) (by omega) (by omega)]; exact g7
  · rw [ec 1 (by omega) (by omega) (by omega)]; exact g8
  · intro q hq
    show nm_ok (fun i => (namV v f n).2 14 (8 * q + i))
    rw [ec 14 (by omega) (by omega) (by omega)]; exact g9 q hq
theorem widV_Z {v : pv_T} {f : Nat → Int} {w : Int} (hv : pvZ v) (hw : 1 ≤ w ∧ w ≤ 99) : ∀ n, pvZ (widV v f w n) ∧ (widV v f w n).1 = v.1
  | 0 => ⟨hv, rfl⟩
  | n + 1 => by
    have h1 := widV_Z (f := f) hv hw n
    exact ⟨⟨pu8_A h1.1.1 hw, h1.1.2⟩, h1.2⟩
theorem kinV_Z {v : pv_T} {f : Nat → Int} {w wo sk : Int} (hv : pvZ v) (h6 : v.1 2 < 6) (hf : nm_ok f) (hw : 1 ≤ w ∧ w ≤ 99) (hwo : 1 ≤ wo ∧ wo ≤ 99) (hsk : 1 ≤ sk ∧ sk ≤ 9) : pvZ (kinV v f w wo sk) := by
  obtain ⟨⟨⟨g1, g2, g3, g4, g5, g6, g7⟩, g8, g9⟩, gz⟩ := hv
  have ec : ∀ c, c ≠ 9 → c ≠ 10 → c ≠ 11 → c ≠ 14 → (kinV v f w wo sk).2 c = v.2 c := fun c h9 h10 h11 h14 => by
    funext i
    show (pu (pu (pu (nmV v f) 9 (v.1 2) w) 10 (v.1 2) wo) 11 (v.1 2) sk).2 c i = _
    rw [pu_o h11, pu_o h10, pu_o h9]
    exact if_neg (fun z => h14 z.1)
  have a9 : ∀ i, (kinV v f w wo sk).2 9 i = if i = v.1 2 then w else v.2 9 i := fun i => rfl
  have a10 : ∀ i, (kinV v f w wo sk).2 10 i = if i = v.1 2 then wo else v.2 10 i := fun i => rfl
  have a11 : ∀ i, (kinV v f w wo sk).2 11 i = if i = v.1 2 then sk else v.2 11 i := fun i => rfl
  have a14 : ∀ i, (kinV v f w wo sk).2 14 i = if 14 = 14 ∧ 8 * v.1 2 ≤ i then f (i - 8 * v.1 2) else v.2 14 i := fun i => rfl
  refine ⟨⟨⟨⟨g1.1, g1.2.1, ?_, g1.2.2.2⟩, ?_, ?_, ?_, fun i hi => ?_, fun i hi => ?_, ?_⟩, ?_, fun q hq => ?_⟩, gz⟩
  · show v.1 2 + 1 ≤ 6; omega
  · rw [ec 1 (by omega) (by omega) (by omega) (by omega), ec 2 (by omega) (by omega) (by omega) (by omega), ec 3 (by omega) (by omega) (by omega) (by omega), ec 4 (by omega) (by omega) (by omega) (by omega)]; exact g2
  · rw [ec 5 (by omega) (by omega) (by omega) (by omega), ec 6 (by omega) (by omega) (by omega) (by omega), ec 7 (by omega) (by omega) (by omega) (by omega)]; exact g3
  · rw [ec 8 (by omega) (by omega) (by omega) (by omega)]; exact g4
  · have hi' : i < v.1 2 + 1 := hi
    rw [a9, a10, a11]
    by_cases c : i = v.1 2
    · rw [if_pos c, if_pos c, if_pos c]; omega
    · rw [if_neg c, if_neg c, if_neg c]; exact g5 i (by omega)
  · have hi' : i < v.1 3 := hi
    omega
  · rw [ec 0 (by omega) (by omega) (by omega) (by omega)]; exact g7
  · rw [ec 1 (by omega) (by omega) (by omega) (by omega)]; exact g8
  · have hq' : q < v.1 2 + 1 := hq
    by_cases c : q = v.1 2
    · have e : nmf (kinV v f w wo sk) q = f := by
        funext i
        show (kinV v f w wo sk).2 14 (8 * q + i) = _
        rw [a14, if_pos ⟨rfl, by omega⟩, c, Nat.add_sub_cancel_left]
      rw [e]; exact hf
    · have g := g9 q (by omega)
      obtain ⟨n, n1, n2, n3, n4⟩ := g
      have e : ∀ i, i < 8 → nmf (kinV v f w wo sk) q i = nmf v q i := fun i hi => by
        show (kinV v f w wo sk).2 14 (8 * q + i) = _
        rw [a14, if_neg (by omega)]
      exact ⟨n, n1, n2, fun i hi => by rw [e i (by omega)]; exact n3 i hi, fun i a c => by rw [e i c]; exact n4 i a c⟩
theorem wdZ_nm {b : bfT} {T : Tk} (hT : tk_ok b T) (h1 : T.1 = 1) : nm_ok (wdZ b T) := by
  have h6 := hT.2.2.2.2.2.1 h1
  have h5 := hT.2.2.2.2.1 (by omega)
  refine ⟨T.2.2 - T.2.1, by omega, by omega, fun i hi => ?_, fun i hi _ => ?_⟩
  · show 97 ≤ (if i < T.2.2 - T.2.1 then b.2 (T.2.1 + i) else 0) ∧ (if i < T.2.2 - T.2.1 then b.2 (T.2.1 + i) else 0) ≤ 122
    rw [if_pos hi]
    exact h6.2 _ (by omega) (by omega)
  · exact if_neg (by omega)
theorem wdF_l {b : bfT} {T : Tk} (hT : tk_ok b T) (h1 : T.1 = 1) {i : Nat} (hi : i < T.2.2 - T.2.1) : 97 ≤ wdF b T i ∧ wdF b T i ≤ 122 := (hT.2.2.2.2.2.1 h1).2 _ (by omega) (by omega)
theorem sArc_ok {b : bfT} {v : pv_T} {T : Tk} {x : pv_T × Tk} (hT : tk_ok b T) (hv : pvZ v) (e : sArc b v T = .inr x) : pvZ x.1 ∧ tk_ok b x.2 ∧ T.2.1 ≤ x.2.2.1 := by
  have hA := adv_ok hT
  unfold sArc at e
  by_cases c : 8 ≤ v.1 0
  · rw [if_pos c] at e; cases e
  · rw [if_neg c] at e
    obtain ⟨x1, e1, e⟩ := Rs.bd_r e
    obtain ⟨x2, e2, e⟩ := Rs.bd_r e
    have q1 := sNum_ok hA.1 e1
    have q2 := sNum_ok q1.1 e2
    have q3 := adW_ok q2.1 (t := 7)
    have hb : 0 ≤ bI (isW b x2.2 7 = true) ∧ bI (isW b x2.2 7 = true) ≤ 1 := by unfold bI; split <;> omega
    by_cases d : isW b (adW b x2.2 7) 8 = true
    · rw [if_pos d] at e
      obtain ⟨x3, e3, e⟩ := Rs.bd_r e
      cases e
      have q4 := adv_ok q3.1
      have q5 := sNum_ok q4.1 e3
      exact ⟨arcV_Z hv (by omega) ⟨q1.2.2.1, q1.2.2.2⟩ ⟨q2.2.2.1, q2.2.2.2⟩ hb ⟨q5.2.2.1, q5.2.2.2⟩, q5.1, by show T.2.1 ≤ x3.2.2.1; omega⟩
    · rw [if_neg d] at e
      cases e
      exact ⟨arcV_Z hv (by omega) ⟨q1.2.2.1, q1.2.2.2⟩ ⟨q2.2.2.1, q2.2.2.2⟩ hb (by omega), q3.1, by show T.2.1 ≤ (adW b x2.2 7).2.1; omega⟩
theorem sName_ok {b : bfT} {v : pv_T} {T : Tk} {x : pv_T × Tk} (hT : tk_ok b T) (hv : pvZ v) (e : sName b v T = .inr x) : pvZ x.1 ∧ tk_ok b x.2 ∧ T.2.1 ≤ x.2.2.1 := by
  have hA := adv_ok hT
  have hB := adv_ok hA.1
  unfold sName at e
  by_cases c : (tkA b T.2.2).1 = 1
  · rw [if_pos c] at e
    by_cases d : v.1 1 + ((tkA b T.2.2).2.2 - (tkA b T.2.2).2.1) ≤ 20
    · rw [if_pos d] at e
      cases e
      exact ⟨namV_Z hv d (fun i hi => wdF_l hA.1 c hi), hB.1, Nat.le_trans hA.2 hB.2⟩
    · rw [if_neg d] at e; cases e
  · rw [if_neg c] at e; cases e
theorem sWide_ok {b : bfT} {v : pv_T} {T : Tk} {x : pv_T × Tk} (hT : tk_ok b T) (hv : pvZ v) (e : sWide b v T = .inr x) : pvZ x.1 ∧ tk_ok b x.2 ∧ T.2.1 ≤ x.2.2.1 := by
  have hA := adv_ok hT
  have hB := adv_ok hA.1
  unfold sWide at e
  by_cases c : (tkA b T.2.2).1 = 1
  · rw [if_pos c] at e
    obtain ⟨x1, e1, e⟩ := Rs.bd_r e
    cases e
    have q1 := sNum_ok hB.1 e1
    exact ⟨(widV_Z hv ⟨q1.2.2.1, q1.2.2.2⟩ _).1, q1.1, by show T.2.1 ≤ x1.2.2.1; omega⟩
  · rw [if_neg c] at e; cases e
theorem sFlo_ok {b : bfT} {v : pv_T} {T : Tk} {x : pv_T × Tk} (hT : tk_ok b T) (hv : pvZ v) (e : sFlo b v T = .inr x) : pvZ x.1 ∧ tk_ok b x.2 ∧ T.2.1 ≤ x.2.2.1 := by
  have hA := adv_ok hT
  have hB := adv_ok hA.1
  unfold sFlo at e
  by_cases c6 : 6 ≤ v.1 2
  · rw [if_pos c6] at e; cases e
  · rw [if_neg c6] at e
    by_cases c : (tkA b T.2.2).1 = 1
    · rw [if_pos c] at e
      by_cases d : takN v (wdZ b (tkA b T.2.2)) = true
      · rw [if_pos d] at e; cases e
      · rw [if_neg d] at e
        obtain ⟨x1, e1, e⟩ := Rs.bd_r e
        obtain ⟨x2, e2, e⟩ := Rs.bd_r e
        obtain ⟨x3, e3, e⟩ := Rs.bd_r e
        cases e
        have q1 := sNum_ok hB.1 e1
        have q2 := sNum_ok q1.1 e2
        have q3 := sNum_ok q2.1 e3
        exact ⟨kinV_Z hv (by omega) (wdZ_nm hA.1 c) ⟨q1.2.2.1, q1.2.2.2⟩ ⟨q2.2.2.1, q2.2.2.2⟩ ⟨q3.2.2.1, q3.2.2.2⟩, q3.1, by show T.2.1 ≤ x3.2.2.1; omega⟩
    · rw [if_neg c] at e; cases e
theorem sOnc_ok {b : bfT} {v : pv_T} {told : Bool} {c : Nat} {lo hi : Int} {T : Tk} {x : pv_T × Tk} (hT : tk_ok b T) (hv : pvZ v) (hc : c = 2 ∨ ((c = 0 ∨ c = 1) ∧ 0 ≤ lo ∧ hi ≤ 99)) (e : sOnc b v told c lo hi T = .inr x) : pvZ x.1 ∧ tk_ok b x.2 ∧ T.2.1 ≤ x.2.2.1 := by
  have hA := adv_ok hT
  unfold sOnc at e
  by_cases d : told = true
  · rw [if_pos d] at e; cases e
  · rw [if_neg d] at e
    obtain ⟨x1, e1, e⟩ := Rs.bd_r e
    cases e
    have q1 := sNum_ok hA.1 e1
    refine ⟨⟨?_, hv.2⟩, q1.1, by show T.2.1 ≤ x1.2.2.1; omega⟩
    rcases hc with rfl | ⟨hc, h1, h2⟩
    · exact ⟨hv.1.1, hv.1.2⟩
    · exact pu0_A hv.1 hc (by omega)
theorem sStm_ok {b : bfT} {v : pv_T} {g : G3} {T : Tk} {x : pv_T × G3 × Tk} (hT : tk_ok b T) (hv : pvZ v) (e : sStm b v g T = .inr x) : pvZ x.1 ∧ tk_ok b x.2.2 ∧ T.2.1 ≤ x.2.2.2.1 := by
  unfold sStm at e
  split at e
  · obtain ⟨x1, e1, e⟩ := Rs.bd_r e; cases e; exact sArc_ok hT hv e1
  · split at e
    · obtain ⟨x1, e1, e⟩ := Rs.bd_r e; cases e; exact sName_ok hT hv e1
    · split at e
      · obtain ⟨x1, e1, e⟩ := Rs.bd_r e; cases e; exact sWide_ok hT hv e1
      · split at e
        · obtain ⟨x1, e1, e⟩ := Rs.bd_r e; cases e; exact sFlo_ok hT hv e1
        · split at e
          · obtain ⟨x1, e1, e⟩ := Rs.bd_r e; cases e; exact sOnc_ok hT hv (Or.inl rfl) e1
          · split at e
            · obtain ⟨x1, e1, e⟩ := Rs.bd_r e; cases e; exact sOnc_ok hT hv (Or.inr ⟨Or.inl rfl, by omega, by omega⟩) e1
            · split at e
              · obtain ⟨x1, e1, e⟩ := Rs.bd_r e; cases e; exact sOnc_ok hT hv (Or.inr ⟨Or.inr rfl, by omega, by omega⟩) e1
              · cases e
theorem sStt_ok {b : bfT} {v : pv_T} {g : G3} {T : Tk} {x : pv_T × G3 × Tk} (hT : tk_ok b T) (hv : pvZ v) (e : sStt b v g T = .inr x) : pvZ x.1 ∧ tk_ok b x.2.2 ∧ T.2.1 < x.2.2.2.1 := by
  unfold sStt at e
  obtain ⟨x1, e1, e⟩ := Rs.bd_r e
  obtain ⟨T', e2, e⟩ := Rs.bd_r e
  cases e
  have q1 := sStm_ok hT hv e1
  have q2 := sSign_ok q1.2.1 e2
  exact ⟨q1.1, q2.1, by show T.2.1 < T'.2.1; omega⟩
theorem sTxt_ok {b : bfT} : ∀ (n : Nat) {v : pv_T} {g : G3} {T : Tk} {x : pv_T}, tk_ok b T → pvZ v → sTxt b n v g T = .inr x → pvZ x
  | 0, v, g, T, x, _, hv, e => by cases e; exact hv
  | n + 1, v, g, T, x, hT, hv, e => by
    unfold sTxt at e
    split at e
    · cases e; exact hv
    · obtain ⟨x1, e1, e⟩ := Rs.bd_r e
      have q1 := sStt_ok hT hv e1
      exact sTxt_ok n q1.2.1 q1.1 e
