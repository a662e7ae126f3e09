/-- the words of the tables that stay as the tables grow warmer; those of nest mates -/
def am_gT : List Cond := lw_tbl.filter goodWord
def am_nest : Cond → Bool
  | .fieldLinkNest _ _ _ _ _ _ => true
  | .methodLinkNest _ _ _ _ => true
  | _ => false
def am_nT : List Cond := lw_tbl.filter am_nest
/-- a field that an entry of own's pool names: class ci, its k-th -/
def am_gf (own : String) (idx ci k : Nat) (ty : FieldType) (fin : Bool) : Prop := ∃ r : vw_C, vwCl[ci]? = some r ∧ k < r.2.2 ∧ (r.2.1 k).2.2.2 = fin ∧ parseFieldDescriptor (r.2.1 k).2.2.1 = some ty ∧
  (Cond.fieldLink own idx (r.2.1 k).1 (r.2.1 k).2.1 (r.2.1 k).2.2.1 ∈ am_gT ∨ ∃ host : String, Cond.fieldLinkNest own idx (r.2.1 k).1 (r.2.1 k).2.1 (r.2.1 k).2.2.1 host ∈ am_nT)
/-- a method that can be called: by its receiver's class, or statically -/
def am_cv (y : MethodName) (bs : ByteArray) (nL : Nat) (ret : Option FieldType) (n : Nat) : Prop := Cond.code y bs nL ret ∈ am_gT ∧ Cond.instanceMethod y ∈ am_gT ∧ Cond.selects y.cls y y ∈ am_gT ∧ Cond.initialized y.cls ∈ am_gT ∧ y.cls ≠ "java/lang/invoke/MethodHandle" ∧ y.cls ≠ "java/lang/invoke/VarHandle" ∧ (parseMethodDescriptor y.desc).map (fun d => d.parameters.length) = some n
def am_cs (y : MethodName) (bs : ByteArray) (nL : Nat) (ret : Option FieldType) (n : Nat) : Prop := Cond.code y bs nL ret ∈ am_gT ∧ Cond.static y ∈ am_gT ∧ Cond.initialized y.cls ∈ am_gT ∧ y.cls ≠ "java/lang/invoke/MethodHandle" ∧ y.cls ≠ "java/lang/invoke/VarHandle" ∧ (parseMethodDescriptor y.desc).map (fun d => d.parameters.length) = some n
theorem am_w {w : Cond} (i : Nat) (h : lw_tbl[i]? = some w) (g : goodWord w = true) : w ∈ am_gT := List.mem_filter.mpr ⟨List.mem_of_getElem? h, g⟩
theorem am_wn {w : Cond} (i : Nat) (h : lw_tbl[i]? = some w) (g : am_nest w = true) : w ∈ am_nT := List.mem_filter.mpr ⟨List.mem_of_getElem? h, g⟩
theorem am_in0 : ∀ w ∈ u_ws RX0 TX0 5, w ∈ am_gT := by decide +kernel
theorem am_in1 : ∀ w ∈ u_ws RX1 TX1 4, w ∈ am_gT := by decide +kernel
theorem am_in2 : ∀ w ∈ u_ws RX2 TX2 5, w ∈ am_gT := by decide +kernel
theorem am_in3 : ∀ w ∈ u_ws RX3 TX3 5, w ∈ am_gT := by decide +kernel
theorem am_in4 : ∀ w ∈ u_ws RX4 TX4 5, w ∈ am_gT := by decide +kernel
theorem am_in5 : ∀ w ∈ u_ws RX5 TX5 6, w ∈ am_gT := by decide +kernel
theorem am_in6 : ∀ w ∈ u_ws RX6 TX6 2, w ∈ am_gT := by decide +kernel
theorem am_in7 : ∀ w ∈ u_ws RX7 TX7 3, w ∈ am_gT := by decide +kernel
theorem am_in8 : ∀ w ∈ u_ws RX8 TX8 7, w ∈ am_gT := by decide +kernel
theorem am_in9 : ∀ w ∈ u_ws RX9 TX9 3, w ∈ am_gT := by decide +kernel
theorem am_in10 : ∀ w ∈ u_ws RX10 TX10 8, w ∈ am_gT := by decide +kernel
theorem am_in11 : ∀ w ∈ u_ws RX11 TX11 13, w ∈ am_gT := by decide +kernel
theorem am_in12 : ∀ w ∈ u_ws RX12 TX12 11, w ∈ am_gT := by decide +kernel
theorem am_in13 : ∀ w ∈ u_ws RJ0 TJ0 4, w ∈ am_gT := by decide +kernel
theorem am_in14 : ∀ w ∈ u_ws RJ4 TJ4 4, w ∈ am_gT := by decide +kernel
theorem am_in15 : ∀ w ∈ u_ws RJx35411 TJx35411 4, w ∈ am_gT := by decide +kernel
theorem am_in16 : ∀ w ∈ u_ws RJx4a65c TJx4a65c 3, w ∈ am_gT := by decide +kernel
abbrev yI_add : MethodName := ⟨"java/util/List", "add", "(Ljava/lang/Object;)Z"⟩
abbrev yI_isEmpty : MethodName := ⟨"java/util/List", "isEmpty", "()Z"⟩
abbrev yI_size : MethodName := ⟨"java/util/List", "size", "()I"⟩
abbrev yI_get : MethodName := ⟨"java/util/List", "get", "(I)Ljava/lang/Object;"⟩
abbrev yI_remove : MethodName := ⟨"java/util/List", "remove", "(I)Ljava/lang/Object;"⟩
abbrev yI_iterator : MethodName := ⟨"java/util/List", "iterator", "()Ljava/util/Iterator;"⟩
abbrev yI_hasNext : MethodName := ⟨"java/util/Iterator", "hasNext", "()Z"⟩
abbrev yI_next : MethodName := ⟨"java/util/Iterator", "next", "()Ljava/lang/Object;"⟩
/-- a constructor; a method of a class below; a super call; a method called by an interface -/
def am_ci (y : MethodName) (bs : ByteArray) (nL n : Nat) : Prop := Cond.code y bs nL none ∈ am_gT ∧ Cond.instanceMethod y ∈ am_gT ∧ Cond.initialized y.cls ∈ am_gT ∧ y.name = "<init>" ∧ y.cls ≠ "java/lang/invoke/MethodHandle" ∧ y.cls ≠ "java/lang/invoke/VarHandle" ∧ (parseMethodDescriptor y.desc).map (fun d => d.parameters.length) = some n
def am_cu (C : String) (y : MethodName) (bs : ByteArray) (nL : Nat) (ret : Option FieldType) (n : Nat) : Prop := Cond.code y bs nL ret ∈ am_gT ∧ Cond.instanceMethod y ∈ am_gT ∧ Cond.sameMethod y.cls y.cls y.name y.desc ∈ am_gT ∧ Cond.selects C y y ∈ am_gT ∧ Cond.initialized y.cls ∈ am_gT ∧ y.cls ≠ "java/lang/invoke/MethodHandle" ∧ y.cls ≠ "java/lang/invoke/VarHandle" ∧ (parseMethodDescriptor y.desc).map (fun d => d.parameters.length) = some n
def am_cp (own : String) (y : MethodName) (bs : ByteArray) (nL : Nat) (ret : Option FieldType) (n : Nat) : Prop := Cond.code y bs nL ret ∈ am_gT ∧ Cond.sameMethod y.cls y.cls y.name y.desc ∈ am_gT ∧ Cond.superclass own y.cls ∈ am_gT ∧ Cond.instanceMethod y ∈ am_gT ∧ Cond.initialized y.cls ∈ am_gT ∧ y.name ≠ "<init>" ∧ (parseMethodDescriptor y.desc).map (fun d => d.parameters.length) = some n
def am_cf (C : String) (x y : MethodName) (bs : ByteArray) (nL : Nat) (ret : Option FieldType) (n : Nat) : Prop := Cond.code y bs nL ret ∈ am_gT ∧ Cond.selects C x y ∈ am_gT ∧ Cond.instanceMethod y ∈ am_gT ∧ Cond.initialized y.cls ∈ am_gT ∧ x.cls ≠ "java/lang/invoke/MethodHandle" ∧ x.cls ≠ "java/lang/invoke/VarHandle" ∧ (parseMethodDescriptor x.desc).map (fun d => d.parameters.length) = some n
