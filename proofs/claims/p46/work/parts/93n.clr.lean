/-! Name.clear, the model's clears, while the world is built -/
theorem bw_set : ∀ (es : List va_E) (b j : Nat) (x : va_E), (bw b es).set j (b + j, x) = bw b (es.set j x)
  | [], b, j, x => rfl
  | e :: es, b, 0, x => rfl
  | e :: es, b, j + 1, x => by
    show (b, e) :: (bw (b + 1) es).set j (b + (j + 1), x) = (b, e) :: bw (b + 1) (es.set j x)
    rw [← bw_set es (b + 1) j x, show b + 1 + j = b + (j + 1) from by omega]
section BLE
variable {p : Program} {l : Launch} {e : Env} {R : Room} {s : State} {m : MethodId} {args : Array Value} {below : List Frame} {meth : Method} {c : Code} {lo : Nat → Prop} {ad : am_G → Nat → Nat} {D : va_G} {cA : Nat → ClassId} {Z : State → Prop}
variable {own : String} {cc : ByteArray} {nL : Nat} {ret : Option FieldType} {fr lc mc ms : Nat} {tb : am_tb} {H : Heap} {locs : List Loc} {cs ss pc b n : Nat} {ls : Array Slot} {st : List Value} {es : List va_E}
theorem bn_get {idx ci N k : Nat} {C : String} {T : u_T} {fs : List Value} {v : Value} (F : am_F own cc nL ret fr lc mc ms tb p l R s m args meth c lo ad D cA) (B : BS D b n s cs (.inr (ci, fs) :: es) H locs) (hd : decode cc pc = .ok (.getfield idx, 3)) (hc : vwCl[ci]? = some (C, T, N)) (hk : k < N) (w : Cond.fieldLink own idx (T k).1 (T k).2.1 (T k).2.2.1 ∈ am_gT) (hv : fs[k]? = some v)
    (kk : W p l e R s m args below meth c H locs cs ss Z (F0 m (pc + 3) ls (v :: st))) : W p l e R s m args below meth c H locs cs ss Z (F0 m pc ls (.ref b :: st)) := by
  exact va_get F.1 F.2.1 F.2.2.2.2.1 (am_cl ci _ hc).1 F.2.2.2.1 F.2.2.2.2.2.1.1 B.1 0 rfl hc k hk (F.2.2.2.2.1 _ w) (fun _ z => z) hv hd kk
theorem bn_ist {j N : Nat} {f : Nat → Int32} {i x : Int32} (F : am_F own cc nL ret fr lc mc ms tb p l R s m args meth c lo ad D cA) (B : BS D b n s cs es H locs) (he : es[j]? = some (.inl (cA 0, N, .inl f))) (hin : vp_in i N) (hd : decode cc pc = .ok (.iastore, 1))
    (kk : ∀ (H1 : Heap) (locs1 : List Loc), BS D b n s cs (es.set j (.inl (cA 0, N, .inl (upd f i.toNatClampNeg x)))) H1 locs1 → W p l e R s m args below meth c H1 locs1 cs ss Z (F0 m (pc + 1) ls st)) : W p l e R s m args below meth c H locs cs ss Z (F0 m pc ls (.int x :: .int i :: .ref (b + j) :: st)) := by
  refine va_iast F.1 F.2.1 F.2.2.2.2.2.1.1 B.1 (bw_D b es) B.S0 j 0 (by rw [bw_at, he]; rfl) rfl hin hd (fun H1 locs1 p1 p2 p3 => ?_)
  rw [bw_set] at p1
  exact bn_sm B (by rw [List.length_set]; exact B.2.2.1) p1 p3 (kk H1 locs1)
theorem bn_ast {j N k ci : Nat} {r : vw_C} {vs : List Value} {f : Nat → Option Nat} {i : Int32} (F : am_F own cc nL ret fr lc mc ms tb p l R s m args meth c lo ad D cA) (B : BS D b n s cs es H locs) (he : es[j]? = some (.inl (cA 4, N, .inr (.inr (.inr (.inr f)))))) (hv : es[k]? = some (.inr (ci, vs))) (hc : vwCl[ci]? = some r) (hr : r.1 = RX5) (hin : vp_in i N) (hd : decode cc pc = .ok (.aastore, 1))
    (kk : ∀ (H1 : Heap) (locs1 : List Loc), BS D b n s cs (es.set j (.inl (cA 4, N, .inr (.inr (.inr (.inr (va_up f i.toNatClampNeg (some (b + k)))))))) ) H1 locs1 → W p l e R s m args below meth c H1 locs1 cs ss Z (F0 m (pc + 1) ls st)) : W p l e R s m args below meth c H locs cs ss Z (F0 m pc ls (.ref (b + k) :: .int i :: .ref (b + j) :: st)) := by
  refine va_astq (r := r) F.1 F.2.1 F.2.2.2.2.2.1.1 B.1 (bw_D b es) B.S0 j 4 k ci (by rw [bw_at, he]; rfl) (by rw [hr]; rfl) (by rw [bw_at, hv]; rfl) hc hin hd (fun H1 locs1 p1 p2 p3 => ?_)
  rw [bw_set] at p1
  exact bn_sm B (by rw [List.length_set]; exact B.2.2.1) p1 p3 (kk H1 locs1)
end BLE
theorem upd_to {f g : Nat → Int32} {i : Nat} {x : Int32} (e : ∀ j, g j = if j = i then x else f j) : upd f i x = g := by
  funext j
  rw [e j]
  rfl
theorem vin {i N : Nat} (h : i < N) (hN : N < 2147483648) : vp_in (iI i) N := by
  have : ib (iI i) N := by rw [xI_ib (by omega) (by omega) (by omega)]; trivial
  exact ib_in this
theorem icl {i : Nat} (h : i < 2147483648) : (iI (i : Int)).toNatClampNeg = i := by rw [xI_cl (by omega) (by omega), Int.toNat_natCast]
def EZ4 : (Nat → ClassId) → Nat → List va_E := fun cA b => [.inr (4, [.ref (b + 1), .ref (b + 2), .ref (b + 3), .ref (b + 4), .int 0]), .inl (cA 0, 20, .inl (fun _ => 0)), .inl (cA 2, 20, .inl (fun _ => 0)), .inl (cA 0, 20, .inl (fun _ => 0)), .inl (cA 0, 26, .inl (fun _ => 0))]
def KZ4 : (Nat → ClassId) → Nat → List va_E := fun cA b => [.inr (4, [.ref (b + 1), .ref (b + 2), .ref (b + 3), .ref (b + 4), .int 0]), .inl (cA 0, 20, .inl (fun _ => 0)), .inl (cA 2, 20, .inl (fun _ => 0)), .inl (cA 0, 20, .inl (fun _ => 0)), .inl (cA 0, 26, .inl (fun j => if j < 26 then 4 else 0))]
theorem M_Z4 : bd_M yX4_clear cX4_clear 2 0 0 0 0 5 EZ4 KZ4 := by
  refine bd_M.of (by decide +kernel) (by decide) (fun _ _ => rfl) ?_
  intro p l e R s m args below meth c lo ad D cA b Z ls F hm hlo hO hE B hl
  have loop : ∀ (k i : Nat), i + k = 26 → ∀ (H : Heap) (locs : List Loc) (ls : Array Slot), BS D b 5 s 0 [.inr (4, [.ref (b + 1), .ref (b + 2), .ref (b + 3), .ref (b + 4), .int 0]), .inl (cA 0, 20, .inl (fun _ => 0)), .inl (cA 2, 20, .inl (fun _ => 0)), .inl (cA 0, 20, .inl (fun _ => 0)), .inl (cA 0, 26, .inl (fun j => if j < i then 4 else 0))] H locs → lv_has ls 2 [(1, .int (iI i)), (0, .ref b)] → W p l e R s m args below meth c H locs 0 0 Z (F0 m 7 ls []) := by
    intro k
    induction k with
    | zero =>
      intro i hi H locs ls B hl
      obtain rfl : i = 26 := by omega
      refine lv_iload_n F.1 F.2.1 dX4_clear_7 rfl (lv_at hl 0 rfl) ?_
      refine lv_bipush (v := iI 26) F.1 F.2.1 dX4_clear_8 rfl ?_
      refine lv_icmp_ge (tgt := 26) F.1 F.2.1 dX4_clear_10 (by decide) (fun _ => ?_) (fun q => absurd (Int32.le_refl _) q)
      exact hE _ _ _ _ dX4_clear_26 B
    | succ k ih =>
      intro i hi H locs ls B hl
      refine lv_iload_n F.1 F.2.1 dX4_clear_7 rfl (lv_at hl 0 rfl) ?_
      refine lv_bipush (v := iI 26) F.1 F.2.1 dX4_clear_8 rfl ?_
      refine lv_icmp_ge (tgt := 26) F.1 F.2.1 dX4_clear_10 (by decide) (fun q => absurd q (by rw [xI_le (by omega) (by omega) (by omega) (by omega)]; omega)) (fun _ => ?_)
      refine lv_aload_n F.1 F.2.1 dX4_clear_13 rfl (lv_at hl 1 rfl) ?_
      refine bn_get (k := 3) (T := TX4) F B dX4_clear_14 rfl (by decide) fw_X4_22 rfl ?_
      refine lv_iload_n F.1 F.2.1 dX4_clear_17 rfl (lv_at hl 0 rfl) ?_
      refine lv_iconst (v := 4) F.1 F.2.1 dX4_clear_18 (by decide) ?_
      refine bn_ist (j := 4) F B rfl (vin (by omega) (by omega)) dX4_clear_19 (fun H locs B => ?_)
      rw [icl (by omega), upd_to (g := fun j => if j < i + 1 then 4 else 0) (fun j => by
        by_cases q : j = i
        · rw [if_pos q, if_pos (by omega)]
        · rw [if_neg q]
          by_cases r : j < i
          · rw [if_pos r, if_pos (by omega)]
          · rw [if_neg r, if_neg (by omega)])] at B
      refine lv_iinc (v := iI ((i + 1 : Nat) : Int)) (lv' := [(1, .int (iI ((i + 1 : Nat) : Int))), (0, .ref b)]) F.1 F.2.1 dX4_clear_20 hl (k := 0) rfl (iI_a _ _) (by decide) rfl (fun ls hl => ?_)
      refine lv_goto (tgt := 7) F.1 F.2.1 dX4_clear_23 (by decide) ?_
      exact ih (i + 1) (by omega) _ _ _ B hl
  refine lv_aload_n F.1 F.2.1 dX4_clear_0 rfl (lv_at hl 0 rfl) ?_
  refine lv_iconst (v := 0) F.1 F.2.1 dX4_clear_1 (by decide) ?_
  refine bn_put (k := 4) (ty := .int) (T := TX4) F B dX4_clear_2 rfl (by decide) fw_X4_28 (Or.inl rfl) (by decide +kernel) rfl rfl (ble rfl) (fun H locs B => ?_)
  refine lv_iconst (v := iI (0 : Nat)) F.1 F.2.1 dX4_clear_5 rfl ?_
  refine lv_istore_n (lv' := [(1, .int (iI (0 : Nat))), (0, .ref b)]) F.1 F.2.1 dX4_clear_6 rfl hl (by decide) rfl (fun ls hl => ?_)
  exact loop 26 0 rfl _ _ _ B hl
