/-! a text that is grown is read: its tokens -/
def At (b : bfT) (p : Nat) (l : List Int) : Prop := p + l.length ≤ b.1 ∧ ∀ i, i < l.length → b.2 (p + i) = l.getD i 0
section LEX
variable {b : bfT} {p q n m t : Nat} {l l1 l2 : List Int}
theorem At.app (h : At b p (l1 ++ l2)) : At b p l1 ∧ At b (p + l1.length) l2 := by
  obtain ⟨h1, h2⟩ := h
  rw [List.length_append] at h1 h2
  refine ⟨⟨by omega, fun i hi => ?_⟩, by omega, fun i hi => ?_⟩
  · rw [h2 i (by omega), gD_app, if_pos hi]
  · rw [show p + l1.length + i = p + (l1.length + i) by omega, h2 (l1.length + i) (by omega), gD_app, if_neg (by omega), show l1.length + i - l1.length = i by omega]
theorem bl_no (h : p < b.1) (hn : ¬ (b.2 p = 32 ∨ b.2 p = 10)) : bl b p = p := by
  unfold bl
  obtain ⟨k, hk⟩ : ∃ k, b.1 - p = k + 1 := ⟨b.1 - p - 1, by omega⟩
  rw [hk]
  exact pv_fst_t (decide_eq_true hn)
theorem bl_yes (h : p < b.1) (hy : b.2 p = 32 ∨ b.2 p = 10) : bl b p = bl b (p + 1) := by
  unfold bl
  obtain ⟨k, hk⟩ : ∃ k, b.1 - p = k + 1 := ⟨b.1 - p - 1, by omega⟩
  rw [hk, show b.1 - (p + 1) = k by omega]
  exact pv_fst_f (decide_eq_false (fun z => z hy))
theorem tk_sp (h : p < b.1) (hy : b.2 p = 32 ∨ b.2 p = 10) : tkA b p = tkA b (p + 1) := by
  unfold tkA
  rw [bl_yes h hy]
theorem run_eq {f : Nat → Int} {lo hi : Int} {n s e : Nat} (h1 : s ≤ e) (h2 : e ≤ n) (h3 : ∀ i, s ≤ i → i < e → lo ≤ f i ∧ f i ≤ hi) (h4 : e < n → ¬ (lo ≤ f e ∧ f e ≤ hi)) : run f lo hi n s = e := by
  have r1 := run_le f lo hi (n := n) (a := s) (by omega)
  by_cases c : run f lo hi n s < e
  · have r2 := run_at (b := f) (lo := lo) (hi := hi) (n := n) (a := s) (by omega) (by omega)
    exact absurd (h3 _ r1.1 c) r2
  · by_cases c2 : e < run f lo hi n s
    · exact absurd (run_in (b := f) (lo := lo) (hi := hi) (n := n) (a := s) h1 c2) (h4 (by omega))
    · omega
/-- a word -/
theorem tk_w (h0 : 0 < n) (h8 : n ≤ 8) (hl : p + n < b.1) (hw : ∀ i, i < n → 97 ≤ b.2 (p + i) ∧ b.2 (p + i) ≤ 122) (hx : ¬ (97 ≤ b.2 (p + n) ∧ b.2 (p + n) ≤ 122)) : tkA b p = (1, p, p + n) := by
  have w0 := hw 0 h0
  rw [Nat.add_zero] at w0
  have hr : run b.2 97 122 b.1 p = p + n := run_eq (by omega) (by omega) (fun i h1 h2 => by have := hw (i - p) (by omega); rw [show p + (i - p) = i by omega] at this; exact this) (fun _ => hx)
  unfold tkA
  rw [bl_no (by omega) (by omega)]
  unfold tkS
  rw [if_neg (by omega), if_pos w0, hr, if_pos (by omega)]
/-- a number -/
theorem tk_n (h0 : 0 < n) (h3 : n ≤ 3) (hl : p + n < b.1) (hw : ∀ i, i < n → 48 ≤ b.2 (p + i) ∧ b.2 (p + i) ≤ 57) (hx : ¬ (48 ≤ b.2 (p + n) ∧ b.2 (p + n) ≤ 57)) : tkA b p = (2, p, p + n) := by
  have w0 := hw 0 h0
  rw [Nat.add_zero] at w0
  have hr : run b.2 48 57 b.1 p = p + n := run_eq (by omega) (by omega) (fun i h1 h2 => by have := hw (i - p) (by omega); rw [show p + (i - p) = i by omega] at this; exact this) (fun _ => hx)
  unfold tkA
  rw [bl_no (by omega) (by omega)]
  unfold tkS
  rw [if_neg (by omega), if_neg (by omega), if_pos w0, hr, if_pos (by omega)]
theorem tk_s (hl : p < b.1) (h : b.2 p = 59) : tkA b p = (3, p, p + 1) := by
  unfold tkA
  rw [bl_no hl (by omega)]
  unfold tkS
  rw [if_neg (by omega), if_neg (by omega), if_neg (by omega), if_pos (Or.inl h)]
theorem tk_e : tkA b b.1 = (0, b.1, b.1) := by
  have : bl b b.1 = b.1 := by
    unfold bl
    rw [Nat.sub_self]
    rfl
  unfold tkA
  rw [this]
  unfold tkS
  rw [if_pos (Nat.le_refl _)]
theorem dg_r {i : Nat} (hn : n < 1000) (hi : i < (dg n).length) : 48 ≤ (dg n).getD i 0 ∧ (dg n).getD i 0 ≤ 57 := by
  by_cases h1 : n < 10
  · rw [dg_1 h1] at hi ⊢
    have hi : i < 1 := hi
    obtain rfl : i = 0 := by omega
    show (48 : Int) ≤ 48 + (n : Int) ∧ 48 + (n : Int) ≤ 57
    omega
  · by_cases h2 : n < 100
    · rw [dg_2 (by omega) h2] at hi ⊢
      have hi : i < 2 := hi
      rcases (show i = 0 ∨ i = 1 by omega) with rfl | rfl
      · show (48 : Int) ≤ 48 + ((n / 10 : Nat) : Int) ∧ 48 + ((n / 10 : Nat) : Int) ≤ 57
        omega
      · show (48 : Int) ≤ 48 + ((n % 10 : Nat) : Int) ∧ 48 + ((n % 10 : Nat) : Int) ≤ 57
        omega
    · rw [dg_3 (by omega)] at hi ⊢
      have hi : i < 3 := hi
      rcases (show i = 0 ∨ i = 1 ∨ i = 2 by omega) with rfl | rfl | rfl
      · show (48 : Int) ≤ 48 + ((n / 100 : Nat) : Int) ∧ 48 + ((n / 100 : Nat) : Int) ≤ 57
        omega
      · show (48 : Int) ≤ 48 + ((n / 10 % 10 : Nat) : Int) ∧ 48 + ((n / 10 % 10 : Nat) : Int) ≤ 57
        omega
      · show (48 : Int) ≤ 48 + ((n % 10 : Nat) : Int) ∧ 48 + ((n % 10 : Nat) : Int) ≤ 57
        omega
theorem nV_dg (hn : n < 1000) (h : At b p (dg n)) : nV b p (dg n).length = n := by
  have h2 := h.2
  by_cases h1 : n < 10
  · rw [dg_1 h1] at h2 ⊢
    have e0 : b.2 (p + 0) = 48 + (n : Int) := h2 0 (by show 0 < 1; omega)
    show 10 * 0 + b.2 (p + 0) - 48 = (n : Int)
    omega
  · by_cases h3 : n < 100
    · rw [dg_2 (by omega) h3] at h2 ⊢
      have e0 : b.2 (p + 0) = 48 + ((n / 10 : Nat) : Int) := h2 0 (by show 0 < 2; omega)
      have e1 : b.2 (p + 1) = 48 + ((n % 10 : Nat) : Int) := h2 1 (by show 1 < 2; omega)
      show 10 * (10 * 0 + b.2 (p + 0) - 48) + b.2 (p + 1) - 48 = (n : Int)
      omega
    · rw [dg_3 (by omega)] at h2 ⊢
      have e0 : b.2 (p + 0) = 48 + ((n / 100 : Nat) : Int) := h2 0 (by show 0 < 3; omega)
      have e1 : b.2 (p + 1) = 48 + ((n / 10 % 10 : Nat) : Int) := h2 1 (by show 1 < 3; omega)
      have e2 : b.2 (p + 2) = 48 + ((n % 10 : Nat) : Int) := h2 2 (by show 2 < 3; omega)
      show 10 * (10 * (10 * 0 + b.2 (p + 0) - 48) + b.2 (p + 1) - 48) + b.2 (p + 2) - 48 = (n : Int)
      omega
/-- a number taken -/
theorem sNum_dg {lo hi : Int} (hn : n < 1000) (h : At b p (dg n)) (hl : p + (dg n).length < b.1) (hx : ¬ (48 ≤ b.2 (p + (dg n).length) ∧ b.2 (p + (dg n).length) ≤ 57)) (h1 : lo ≤ n) (h2 : (n : Int) ≤ hi) : sNum b (tkA b p) lo hi = .inr ((n : Int), tkA b (p + (dg n).length)) := by
  have hd := dg_len (n := n)
  have e := tk_n (b := b) (p := p) (n := (dg n).length) (by omega) (by omega) hl (fun i hi => by rw [h.2 i hi]; exact dg_r hn hi) hx
  have ev : nvT b (2, p, p + (dg n).length) = n := by
    show nV b p (p + (dg n).length - p) = n
    rw [show p + (dg n).length - p = (dg n).length by omega]
    exact nV_dg hn h
  unfold sNum
  rw [e, if_pos rfl, ev, if_pos ⟨h1, h2⟩]
theorem tx_ne : ∀ t, t < 9 → ∀ t', t' < 9 → t ≠ t' → am_tx t ≠ am_tx t' := by decide +kernel
theorem tx_lt : ∀ t, t < 9 → ∀ i, i < (am_tx t).length → 97 ≤ ((am_tx t).getD i 0).toInt ∧ ((am_tx t).getD i 0).toInt ≤ 122 := by decide +kernel
theorem txI_D (i : Nat) : (txI t).getD i 0 = txC t i := by
  unfold txI txC
  rw [List.getD_eq_getElem?_getD, List.getD_eq_getElem?_getD, List.getElem?_map]
  cases (am_tx t)[i]? with
  | none => rfl
  | some y => rfl
/-- a text constant's word -/
theorem tk_t (ht : t < 9) (h : At b p (txI t)) (hl : p + (am_tx t).length < b.1) (hx : ¬ (97 ≤ b.2 (p + (am_tx t).length) ∧ b.2 (p + (am_tx t).length) ≤ 122)) : tkA b p = (1, p, p + (am_tx t).length) ∧ isW b (tkA b p) t = true ∧ ∀ t', t' < 9 → t ≠ t' → isW b (tkA b p) t' = false := by
  have hlen := tx_len t ht
  have h2 : ∀ i, i < (am_tx t).length → b.2 (p + i) = txC t i := fun i hi => by
    rw [h.2 i (by rw [txI_len]; exact hi), txI_D]
  have e := tk_w (b := b) (p := p) (n := (am_tx t).length) (by omega) hlen.2 hl (fun i hi => by rw [h2 i hi]; exact tx_lt t ht i hi) hx
  rw [e]
  refine ⟨rfl, decide_eq_true ⟨rfl, rfl, h2⟩, fun t' ht' hne => decide_eq_false (fun ⟨_, z2, z3⟩ => tx_ne t ht t' ht' hne ?_)⟩
  have z2 : p + (am_tx t).length = p + (am_tx t').length := z2
  have hll : (am_tx t).length = (am_tx t').length := by omega
  refine List.ext_getElem hll (fun i h1 h3 => ?_)
  have z4 : txC t' i = txC t i := (z3 i h3).symm.trans (h2 i h1)
  have z5 : ∀ s, i < (am_tx s).length → txC s i = ((am_tx s)[i]?.getD 0).toInt := fun s hs => by
    show ((am_tx s).getD i 0).toInt = _
    rw [List.getD_eq_getElem?_getD]
  rw [z5 t' h3, z5 t h1, List.getElem?_eq_getElem h1, List.getElem?_eq_getElem h3] at z4
  exact (Int32.toInt_inj.mp z4).symm
theorem isW_3 {T : Tk} (h : T.1 ≠ 1) : isW b T t = false := decide_eq_false (fun z => h z.1)
end LEX
