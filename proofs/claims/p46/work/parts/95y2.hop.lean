/-! what holds behind each change -/
section OLE
variable {st : St} {k : Nat}
theorem oLet_0 (hk : k < st.1.1 1) : oLet st k 0 = .inl (iI (st.1.2 5 k)) := by unfold oLet; rw [if_pos (by omega), Int.toNat_natCast]; rfl
theorem oLet_1 (hk : k < st.1.1 1) : oLet st k 1 = .inl (iI (1000 * pv_w st.1 k)) := by unfold oLet; rw [if_pos (by omega), Int.toNat_natCast]; rfl
theorem oLet_2 (hk : k < st.1.1 1) : oLet st k 2 = .inl (iI (pv_ct st.1 k)) := by unfold oLet; rw [if_pos (by omega), Int.toNat_natCast]; rfl
theorem oLet_3 (hk : k < st.1.1 1) : oLet st k 3 = .inl (iI (pv_cp st.1 k)) := by unfold oLet; rw [if_pos (by omega), Int.toNat_natCast]; rfl
theorem oLet_4 (hk : k < st.1.1 1) : oLet st k 4 = .inl (iI (pv_le st.1 k)) := by unfold oLet; rw [if_pos (by omega), Int.toNat_natCast]; rfl
theorem oLet_5 (hk : k < st.1.1 1) : oLet st k 5 = .inl (iI (pv_re st.1 k)) := by unfold oLet; rw [if_pos (by omega), Int.toNat_natCast]; rfl
theorem oLet_6 (hk : k < st.1.1 1) : oLet st k 6 = .inl (iI (pv_bT st.1 (pv_ct st.1 k) (st.1.1 0) % 3600)) := by unfold oLet; rw [if_pos (by omega), Int.toNat_natCast]; rfl
theorem oLet_7 (hk : k < st.1.1 1) : oLet st k 7 = .inl (iI (pv_ar st.1 (pv_ct st.1 k))) := by unfold oLet; rw [if_pos (by omega), Int.toNat_natCast]; rfl
theorem oLet_8 (hk : k < st.1.1 1) : oLet st k 8 = .inl (iI (st.1.2 6 k)) := by unfold oLet; rw [if_pos (by omega), Int.toNat_natCast]; rfl
theorem oLet_9 (hk : k < st.1.1 1) : oLet st k 9 = .inl (iI (bI (pv_iS st.1 k))) := by unfold oLet; rw [if_pos (by omega), Int.toNat_natCast]; rfl
theorem oLet_10 (hk : k < st.1.1 1) : oLet st k 10 = .inl (iI (1 + st.1.2 5 k % 4)) := by unfold oLet; rw [if_pos (by omega), Int.toNat_natCast]; rfl
theorem oLet_11 (hk : k < st.1.1 1) : oLet st k 11 = .inl (iI (st.1.2 7 k)) := by unfold oLet; rw [if_pos (by omega), Int.toNat_natCast]; rfl
theorem oLet_12 (hk : k < st.1.1 1) : oLet st k 12 = .inl (iI (cN (fun j => decide (st.1.2 12 j = (k : Int))) (st.1.1 3))) := by unfold oLet; rw [if_pos (by omega), Int.toNat_natCast]; rfl
theorem oScr_0 (hk : k < st.1.1 3) : oScr st k 0 = .inl (iI (st.1.2 12 k)) := by unfold oScr; rw [if_pos (by omega), Int.toNat_natCast]; rfl
theorem oScr_1 (hk : k < st.1.1 3) : oScr st k 1 = .inl (iI (st.1.2 13 k)) := by unfold oScr; rw [if_pos (by omega), Int.toNat_natCast]; rfl
theorem oScr_2 (hk : k < st.1.1 3) : oScr st k 2 = .inl (iI (pv_sb st.1 k)) := by unfold oScr; rw [if_pos (by omega), Int.toNat_natCast]; rfl
theorem oRoom_e (hk : k ≤ st.1.1 1) : oRoom st k = .inl (iI (pv_rm st.1 k)) := by unfold oRoom; rw [if_pos (by omega), Int.toNat_natCast]
theorem oFi_e (hk : k ≤ st.1.1 1) : oFi st k = .inl (iI ((pv_fs st.1 (st.1.1 1 + 1)).2.1 k)) := by unfold oFi; rw [if_pos (by omega), Int.toNat_natCast]
theorem oSl_e (hk : k < st.1.1 2) : oSl st k = .inl (iI ((pv_fs st.1 (st.1.1 1 + 1)).2.2 k)) := by unfold oSl; rw [if_pos (by omega), Int.toNat_natCast]
end OLE
section PUR
variable {v : pv_T}
theorem crS_bt {m k : Nat} (hk : k < 31) (hm : m ≤ 31) : bt (pv_crS v m) k = decide (k < m ∧ pv_rm v k < 100 * v.2 0 1) := by
  induction m with
  | zero =>
    show bt 0 k = _
    rw [b_0, decide_eq_false (by omega)]
  | succ m ih =>
    unfold pv_crS
    by_cases c : pv_rm v m < 100 * v.2 0 1
    · rw [if_pos c, show (iI 1 <<< (iI (m : Int) &&& 31)) = ((1 : Int32) <<< (nI m &&& 31)) by rw [iI_nI]; rfl, or_bt (by omega) hk, ih (by omega)]
      by_cases e : k = m
      · subst e
        rw [decide_eq_true (show k = k from rfl), decide_eq_true (show k < k + 1 ∧ _ from ⟨by omega, c⟩), Bool.or_true]
      · rw [decide_eq_false e, Bool.or_false]
        congr 1
        refine propext ⟨fun z => ⟨by omega, z.2⟩, fun z => ⟨by omega, z.2⟩⟩
    · rw [if_neg c, ih (by omega)]
      congr 1
      refine propext ⟨fun z => ⟨by omega, z.2⟩, fun z => ⟨?_, z.2⟩⟩
      have h1 := z.1
      by_cases e : k = m
      · subst e; exact absurd z.2 c
      · omega
theorem ti_min : ∀ (m k : Nat), k < m → pv_rm v (pv_ti v m) ≤ pv_rm v k
  | 0, k, h => by omega
  | m + 1, k, h => by
    unfold pv_ti
    by_cases c : pv_rm v m < pv_rm v (pv_ti v m)
    · rw [if_pos c]
      by_cases e : k = m
      · subst e; omega
      · have := ti_min m k (by omega); omega
    · rw [if_neg c]
      by_cases e : k = m
      · subst e; omega
      · exact ti_min m k (by omega)
theorem wo_b (hv : pv_ok v) {f : fs_T} (hf : ∀ i, -1 ≤ f.2.1 i ∧ f.2.1 i < v.1 2) : ∀ n, (cN (fun j => decide (0 ≤ f.2.1 j)) n : Int) ≤ pv_wo v f n ∧ pv_wo v f n ≤ 99 * n
  | 0 => by
    show (0 : Int) ≤ 0 ∧ (0 : Int) ≤ 99 * 0
    omega
  | n + 1 => by
    have ih := wo_b hv hf n
    have h1 := hf n
    unfold pv_wo
    by_cases c : f.2.1 n = -1
    · rw [if_pos c, cN_f (p := fun j => decide (0 ≤ f.2.1 j)) (decide_eq_false (by omega))]
      omega
    · have h2 := hv.2.2.2.2.1 (f.2.1 n).toNat (by omega)
      rw [if_neg c, cN_t (p := fun j => decide (0 ≤ f.2.1 j)) (decide_eq_true (by omega))]
      omega
theorem iS_of {s : Nat} (hs : s < v.1 3) : pv_iS v (pv_sb v s) := by
  have hm := pv_fst_le (fun i => decide (pv_sb v i = pv_sb v s)) (v.1 3) 0
  have hlt := pv_fst_lt (fun i => decide (pv_sb v i = pv_sb v s)) (v.1 3) 0 s (Nat.zero_le _)
  unfold pv_iS
  refine Nat.not_le.mp (fun z => ?_)
  have := hlt (by omega)
  rw [decide_eq_true (show pv_sb v s = pv_sb v s from rfl)] at this
  cases this
theorem sb_lt {s : Nat} : pv_sb v s < v.1 1 := by
  unfold pv_sb
  split
  · next c => exact c.1
  · omega
theorem cN_0 {p : Nat → Bool} : ∀ n, (∀ i, i < n → p i = false) → cN p n = 0
  | 0, _ => rfl
  | n + 1, h => by rw [cN_f (h n (by omega)), cN_0 n (fun i hi => h i (by omega))]
theorem inv_cnt {k : Nat} (I : Inv v) (hk : v.2 6 k = 0) : cN (fun j => decide (v.2 12 j = (k : Int))) (v.1 3) = 0 := cN_0 _ (fun i hi => decide_eq_false (fun z => by
  have := (I i hi).1
  rw [z, Int.toNat_natCast, hk] at this
  omega))
theorem fr_step (hv : pv_ok v) {k : Nat} (hk : k < v.1 1) : pv_fr v k + pv_rm v k + 1000 * pv_w v k = pv_fr v (k + 1) := by
  show _ = pv_re v k
  unfold pv_rm pv_le pv_re
  rw [if_pos hk]
  omega
theorem fr_last : pv_fr v (v.1 1) + pv_rm v (v.1 1) = pv_wP v := by
  unfold pv_rm
  rw [if_neg (by omega)]
  omega
theorem fr_b (hv : pv_ok v) {k : Nat} (hk : k ≤ v.1 1) : 0 ≤ pv_fr v k ∧ pv_fr v k ≤ 2915600 := by
  cases k with
  | zero => exact ⟨Int.le_refl _, by show (0 : Int) ≤ 2915600; omega⟩
  | succ i => exact pv_re_b hv (by omega)
end PUR
theorem wik {d : dm_D} {i q p : Nat} {g : Nat → Int32} {y : Int32} (o : dAr d i 0 q g) (hk : p < q) (hn : q < 2147483648) : dm_wi d (.inl 0, i) 0 (iI (p : Int)) y = some (dm_se d i (.inr (.inl (0, q, upd g p y)))) := by
  rw [wi_at o (ib1 hk hn), iI_cl (by omega)]
