/-! THE JUDGEMENT zq_V: the machine at pc, with locals L, stack st and heap h (places), comes to the method's end with an answer v and a heap h' that Q holds of. -/
abbrev zq_G : Type := Launch × va_G × Nat × List (Nat × (Nat → Int32))
/-- which cells may change: those that came since the law began -/
def zq_A (G : zq_G) : Nat → Prop := fun q => G.2.2.1 ≤ q
/-- element types of the arrays, by their tags -/
def zq_ty : Nat → FieldType
  | 0 => .int
  | 1 => .long
  | 2 => .boolean
  | _ => .object "RiichiTable$Player"
def zq_stat : List (String × String × String × Nat) := [("RiichiTable$Judge", "CLOSED_HAN", "[I", 1), ("RiichiTable$Judge", "OPEN_HAN", "[I", 2)]
def zq_arr (cls : Nat → ClassId) (s : State) (h : zq_H) : Prop := ∀ (q : Nat) (x : Nat × vp_A), h[q]? = some (.inl x) → ArrOfT s (cls q) (zq_ty x.1) ∧ va_RA s (cls q) (zq_ty x.1)
def zq_Fr (G : zq_G) (ad : Nat → Nat) (s : State) : Prop :=
  va_K G.2.1 zq_cl [] s ∧ (∀ w ∈ zq_nest, va_Nw w s) ∧ G.2.2.1 ≤ s.heap.size ∧
  (∀ (i : Nat) (x : Nat × (Nat → Int32)), G.2.2.2[i]? = some x → va_T .int (ad (zq_B + i)) x.1 (fun j => .int (x.2 j)) (zq_A G) s s.heap) ∧
  (∀ (i : Nat) (x : String × String × String × Nat), zq_stat[i]? = some x → va_Z x.1 x.2.1 x.2.2.1 (.ref (ad (zq_B + x.2.2.2))) (zq_A G) s s.heap) ∧ va_AO "RiichiTable$Player" s
def zq_Hp (G : zq_G) (ad : Nat → Nat) (cls : Nat → ClassId) (s : State) (H : Heap) (locs : List Loc) (h : zq_H) : Prop :=
  va_P G.2.1 zq_cl (zq_w ad cls h) H ∧ va_D (zq_A G) (zq_w ad cls h) ∧ va_S (zq_A G) s.heap H locs ∧ zq_okH h ∧ h.length < zq_B ∧ zq_arr cls s h
def zq_Fx (p : Program) (s : State) (m : MethodId) (args : Array Value) (meth : Method) (c : Code) (own : String) (cc : ByteArray) (nL : Nat) (rt : Option FieldType) (ini : Bool) : Prop :=
  p.tables.exec = Jvm.exec ∧ c.code = cc ∧ c.maxLocals = nL ∧ s.vm.findClass own = some m.cls ∧ (∀ w ∈ zq_ws, w.before args s = true) ∧ meth.sig.returnType = rt ∧ meth.locks = false ∧ (ini = true → meth.name = "<init>")
/-- the instruction at pc returns v -/
def zq_Ret (rt : Option FieldType) (cc : ByteArray) (pc : Nat) : Option Value → Prop
  | none => decode cc pc = .ok (.return_, 1) ∧ rt = none
  | some (.int x) => decode cc pc = .ok (.ireturn, 1) ∧ ∃ ty, rt = some ty ∧ narrow ty (.int x) = .int x
  | some (.long _) => decode cc pc = .ok (.lreturn, 1) ∧ rt = some .long
  | _ => False
def zq_okO (n : Nat) (v : Option Value) : Prop := ∀ w, v = some w → zq_ok n w
/-- a frame's fixed things: owner, code, number of locals, return type, whether a constructor, room -/
abbrev zq_C : Type := String × ByteArray × Nat × Option FieldType × Bool × Room
def zq_V (G : zq_G) (F : zq_C) (k n pc : Nat) (L : List (Option Value)) (st : List Value) (h : zq_H) (Q : Option Value → zq_H → Prop) : Prop :=
  ∀ (p : Program) (e : Env) (s : State) (m : MethodId) (args : Array Value) (below : List Frame) (meth : Method) (c : Code) (H : Heap) (locs : List Loc) (ls : Array Slot) (ad : Nat → Nat) (cls : Nat → ClassId) (QW : State → Prop),
    zq_Fx p s m args meth c F.1 F.2.1 F.2.2.1 F.2.2.2.1 F.2.2.2.2.1 → zq_Fr G ad s → zq_Hp G ad cls s H locs h → lv_has ls F.2.2.1 (zq_lv ad L) → (∀ v ∈ st, zq_ok h.length v) → (∀ v, some v ∈ L → zq_ok h.length v) →
    (∀ (v : Option Value) (h' : zq_H) (ad' : Nat → Nat) (cls' : Nat → ClassId) (H' : Heap) (locs' : List Loc) (k' n' : Nat) (ls' : Array Slot) (pc' : Nat), Q v h' → zq_Hp G ad' cls' s H' locs' h' → zq_ag h.length ad ad' → h.length ≤ h'.length → zq_okO h'.length v → k' ≤ F.2.2.2.2.2.cells → n' ≤ F.2.2.2.2.2.slots → zq_Ret F.2.2.2.1 F.2.1 pc' v →
      W p G.1 e F.2.2.2.2.2 s m args below meth c H' locs' k' n' QW (F0 m pc' ls' ((v.map (zq_v ad')).toList))) →
    W p G.1 e F.2.2.2.2.2 s m args below meth c H locs k n QW (F0 m pc ls (st.map (zq_v ad)))
section ZRULES
variable {G : zq_G} {F : zq_C} {k n pc : Nat} {L : List (Option Value)} {st : List Value} {h : zq_H} {Q : Option Value → zq_H → Prop}
theorem zq_cc {n : Nat} {w : Value} {st : List Value} (hw : zq_ok n w) (hs : ∀ v ∈ st, zq_ok n v) : ∀ v ∈ w :: st, zq_ok n v := List.forall_mem_cons.mpr ⟨hw, hs⟩
theorem zq_tt {n : Nat} {w : Value} {st : List Value} (hs : ∀ v ∈ w :: st, zq_ok n v) : ∀ v ∈ st, zq_ok n v := (List.forall_mem_cons.mp hs).2
theorem zq_hh {n : Nat} {w : Value} {st : List Value} (hs : ∀ v ∈ w :: st, zq_ok n v) : zq_ok n w := (List.forall_mem_cons.mp hs).1
theorem zq_lok {n : Nat} {L : List (Option Value)} (hL : ∀ v, some v ∈ L → zq_ok n v) {i : Nat} {v : Value} (hv : zq_ok n v) : ∀ w, some w ∈ zq_set1 L i v → zq_ok n w := by
  intro w hw
  obtain ⟨j, hj⟩ := List.getElem?_of_mem hw
  unfold zq_set1 at hj
  rw [List.getElem?_set] at hj
  split at hj
  · split at hj
    · cases hj; exact hv
    · cases hj
  · exact hL w (List.mem_of_getElem? (zq_clr_get hj).1)
theorem zq_lok2 {n : Nat} {L : List (Option Value)} (hL : ∀ v, some v ∈ L → zq_ok n v) {i : Nat} {v : Value} (hv : zq_ok n v) : ∀ w, some w ∈ zq_set2 L i v → zq_ok n w := by
  intro w hw
  obtain ⟨j, hj⟩ := List.getElem?_of_mem hw
  unfold zq_set2 at hj
  rw [List.getElem?_set] at hj
  split at hj
  · split at hj
    · cases hj; exact hv
    · cases hj
  · rw [List.getElem?_set] at hj
    split at hj
    · split at hj <;> cases hj
    · exact hL w (List.mem_of_getElem? (zq_clr_get hj).1)
theorem zq_la {ad : Nat → Nat} {ls : Array Slot} {nL i : Nat} {L : List (Option Value)} {v : Value} (hl : lv_has ls nL (zq_lv ad L)) (hi : L[i]? = some (some v)) : ls[i]? = some (.val (zq_v ad v)) := hl.2.2 (i, zq_v ad v) (zq_lv_mem.mpr ⟨v, hi, rfl⟩)
-- constants
theorem zq_iconst {x : Int} {v : Int32} (hd : decode F.2.1 pc = .ok (.iconst x, 1)) (hv : Int32.ofInt x = v) (kk : zq_V G F k n (pc + 1) L (.int v :: st) h Q) : zq_V G F k n pc L st h Q :=
  fun p e s m args below meth c H locs ls ad cls QW fx fr hp hl hs hL kr => lv_iconst fx.1 fx.2.1 hd hv (kk p e s m args below meth c H locs ls ad cls QW fx fr hp hl (zq_cc trivial hs) hL kr)
theorem zq_bipush {x : Int} {v : Int32} (hd : decode F.2.1 pc = .ok (.bipush x, 2)) (hv : (Int8.ofInt x).toInt32 = v) (kk : zq_V G F k n (pc + 2) L (.int v :: st) h Q) : zq_V G F k n pc L st h Q :=
  fun p e s m args below meth c H locs ls ad cls QW fx fr hp hl hs hL kr => lv_bipush fx.1 fx.2.1 hd hv (kk p e s m args below meth c H locs ls ad cls QW fx fr hp hl (zq_cc trivial hs) hL kr)
theorem zq_sipush {x : Int} {v : Int32} (hd : decode F.2.1 pc = .ok (.sipush x, 3)) (hv : (Int16.ofInt x).toInt32 = v) (kk : zq_V G F k n (pc + 3) L (.int v :: st) h Q) : zq_V G F k n pc L st h Q :=
  fun p e s m args below meth c H locs ls ad cls QW fx fr hp hl hs hL kr => lv_sipush fx.1 fx.2.1 hd hv (kk p e s m args below meth c H locs ls ad cls QW fx fr hp hl (zq_cc trivial hs) hL kr)
theorem zq_lconst {x : Fin 2} {v : Int64} (hd : decode F.2.1 pc = .ok (.lconst x, 1)) (hv : Int64.ofNat (x : Nat) = v) (kk : zq_V G F k n (pc + 1) L (.long v :: st) h Q) : zq_V G F k n pc L st h Q :=
  fun p e s m args below meth c H locs ls ad cls QW fx fr hp hl hs hL kr => lv_lconst fx.1 fx.2.1 hd hv (kk p e s m args below meth c H locs ls ad cls QW fx fr hp hl (zq_cc trivial hs) hL kr)
theorem zq_ldc {i : Nat} {v : Int32} (hw : Cond.constant F.1 i v ∈ zq_ws) (hd : decode F.2.1 pc = .ok (.ldc i, 2)) (kk : zq_V G F k n (pc + 2) L (.int v :: st) h Q) : zq_V G F k n pc L st h Q :=
  fun p e s m args below meth c H locs ls ad cls QW fx fr hp hl hs hL kr => lv_ldc fx.1 fx.2.1 fx.2.2.2.1 (fx.2.2.2.2.1 _ hw) hd (kk p e s m args below meth c H locs ls ad cls QW fx fr hp hl (zq_cc trivial hs) hL kr)
theorem zq_ldcw {i : Nat} {v : Int32} (hw : Cond.constant F.1 i v ∈ zq_ws) (hd : decode F.2.1 pc = .ok (.ldc_w i, 3)) (kk : zq_V G F k n (pc + 3) L (.int v :: st) h Q) : zq_V G F k n pc L st h Q :=
  fun p e s m args below meth c H locs ls ad cls QW fx fr hp hl hs hL kr => lv_ldcw fx.1 fx.2.1 fx.2.2.2.1 (fx.2.2.2.2.1 _ hw) hd (kk p e s m args below meth c H locs ls ad cls QW fx fr hp hl (zq_cc trivial hs) hL kr)
theorem zq_ldc2 {i : Nat} {v : Int64} (hw : Cond.constantLong F.1 i v ∈ zq_ws) (hd : decode F.2.1 pc = .ok (.ldc2_w i, 3)) (kk : zq_V G F k n (pc + 3) L (.long v :: st) h Q) : zq_V G F k n pc L st h Q :=
  fun p e s m args below meth c H locs ls ad cls QW fx fr hp hl hs hL kr => lv_ldc2 fx.1 fx.2.1 fx.2.2.2.1 (fx.2.2.2.2.1 _ hw) hd (kk p e s m args below meth c H locs ls ad cls QW fx fr hp hl (zq_cc trivial hs) hL kr)
-- loads
theorem zq_iload_n {j : Fin 4} {i : Nat} {x : Int32} (hd : decode F.2.1 pc = .ok (.iload_n j, 1)) (hi : (j : Nat) = i) (hx : L[i]? = some (some (.int x))) (kk : zq_V G F k n (pc + 1) L (.int x :: st) h Q) : zq_V G F k n pc L st h Q :=
  fun p e s m args below meth c H locs ls ad cls QW fx fr hp hl hs hL kr => lv_iload_n fx.1 fx.2.1 hd hi (zq_la hl hx) (kk p e s m args below meth c H locs ls ad cls QW fx fr hp hl (zq_cc trivial hs) hL kr)
theorem zq_iload {i : Nat} {x : Int32} (hd : decode F.2.1 pc = .ok (.iload i, 2)) (hx : L[i]? = some (some (.int x))) (kk : zq_V G F k n (pc + 2) L (.int x :: st) h Q) : zq_V G F k n pc L st h Q :=
  fun p e s m args below meth c H locs ls ad cls QW fx fr hp hl hs hL kr => lv_iload fx.1 fx.2.1 hd (zq_la hl hx) (kk p e s m args below meth c H locs ls ad cls QW fx fr hp hl (zq_cc trivial hs) hL kr)
theorem zq_lload_n {j : Fin 4} {i : Nat} {x : Int64} (hd : decode F.2.1 pc = .ok (.lload_n j, 1)) (hi : (j : Nat) = i) (hx : L[i]? = some (some (.long x))) (kk : zq_V G F k n (pc + 1) L (.long x :: st) h Q) : zq_V G F k n pc L st h Q :=
  fun p e s m args below meth c H locs ls ad cls QW fx fr hp hl hs hL kr => lv_lload_n fx.1 fx.2.1 hd hi (zq_la hl hx) (kk p e s m args below meth c H locs ls ad cls QW fx fr hp hl (zq_cc trivial hs) hL kr)
theorem zq_lload {i : Nat} {x : Int64} (hd : decode F.2.1 pc = .ok (.lload i, 2)) (hx : L[i]? = some (some (.long x))) (kk : zq_V G F k n (pc + 2) L (.long x :: st) h Q) : zq_V G F k n pc L st h Q :=
  fun p e s m args below meth c H locs ls ad cls QW fx fr hp hl hs hL kr => lv_lload fx.1 fx.2.1 hd (zq_la hl hx) (kk p e s m args below meth c H locs ls ad cls QW fx fr hp hl (zq_cc trivial hs) hL kr)
theorem zq_aload_n {j : Fin 4} {i x : Nat} (hd : decode F.2.1 pc = .ok (.aload_n j, 1)) (hi : (j : Nat) = i) (hx : L[i]? = some (some (.ref x))) (kk : zq_V G F k n (pc + 1) L (.ref x :: st) h Q) : zq_V G F k n pc L st h Q :=
  fun p e s m args below meth c H locs ls ad cls QW fx fr hp hl hs hL kr => lv_aload_n fx.1 fx.2.1 hd hi (zq_la hl hx) (kk p e s m args below meth c H locs ls ad cls QW fx fr hp hl (zq_cc (hL _ (List.mem_of_getElem? hx)) hs) hL kr)
theorem zq_aload {i x : Nat} (hd : decode F.2.1 pc = .ok (.aload i, 2)) (hx : L[i]? = some (some (.ref x))) (kk : zq_V G F k n (pc + 2) L (.ref x :: st) h Q) : zq_V G F k n pc L st h Q :=
  fun p e s m args below meth c H locs ls ad cls QW fx fr hp hl hs hL kr => lv_aload fx.1 fx.2.1 hd (zq_la hl hx) (kk p e s m args below meth c H locs ls ad cls QW fx fr hp hl (zq_cc (hL _ (List.mem_of_getElem? hx)) hs) hL kr)
-- stores
theorem zq_istore_n {j : Fin 4} {i : Nat} {x : Int32} (hd : decode F.2.1 pc = .ok (.istore_n j, 1)) (hi : (j : Nat) = i) (hn : i < F.2.2.1) (kk : zq_V G F k n (pc + 1) (zq_set1 L i (.int x)) st h Q) : zq_V G F k n pc L (.int x :: st) h Q :=
  fun p e s m args below meth c H locs ls ad cls QW fx fr hp hl hs hL kr => lv_istore_n fx.1 fx.2.1 hd hi hl hn rfl (fun ls' hl' => kk p e s m args below meth c H locs ls' ad cls QW fx fr hp (zq_has1 (v := .int x) hl') (zq_tt hs) (zq_lok hL trivial) kr)
theorem zq_istore {i : Nat} {x : Int32} (hd : decode F.2.1 pc = .ok (.istore i, 2)) (hn : i < F.2.2.1) (kk : zq_V G F k n (pc + 2) (zq_set1 L i (.int x)) st h Q) : zq_V G F k n pc L (.int x :: st) h Q :=
  fun p e s m args below meth c H locs ls ad cls QW fx fr hp hl hs hL kr => lv_istore fx.1 fx.2.1 hd hl hn rfl (fun ls' hl' => kk p e s m args below meth c H locs ls' ad cls QW fx fr hp (zq_has1 (v := .int x) hl') (zq_tt hs) (zq_lok hL trivial) kr)
theorem zq_lstore_n {j : Fin 4} {i : Nat} {x : Int64} (hd : decode F.2.1 pc = .ok (.lstore_n j, 1)) (hi : (j : Nat) = i) (hn : i + 1 < F.2.2.1) (kk : zq_V G F k n (pc + 1) (zq_set2 L i (.long x)) st h Q) : zq_V G F k n pc L (.long x :: st) h Q :=
  fun p e s m args below meth c H locs ls ad cls QW fx fr hp hl hs hL kr => lv_lstore_n fx.1 fx.2.1 hd hi hl hn rfl (fun ls' hl' => kk p e s m args below meth c H locs ls' ad cls QW fx fr hp (zq_has2 (v := .long x) hl') (zq_tt hs) (zq_lok2 hL trivial) kr)
theorem zq_lstore {i : Nat} {x : Int64} (hd : decode F.2.1 pc = .ok (.lstore i, 2)) (hn : i + 1 < F.2.2.1) (kk : zq_V G F k n (pc + 2) (zq_set2 L i (.long x)) st h Q) : zq_V G F k n pc L (.long x :: st) h Q :=
  fun p e s m args below meth c H locs ls ad cls QW fx fr hp hl hs hL kr => lv_lstore fx.1 fx.2.1 hd hl hn rfl (fun ls' hl' => kk p e s m args below meth c H locs ls' ad cls QW fx fr hp (zq_has2 (v := .long x) hl') (zq_tt hs) (zq_lok2 hL trivial) kr)
theorem zq_astore_n {j : Fin 4} {i x : Nat} (hd : decode F.2.1 pc = .ok (.astore_n j, 1)) (hi : (j : Nat) = i) (hn : i < F.2.2.1) (kk : zq_V G F k n (pc + 1) (zq_set1 L i (.ref x)) st h Q) : zq_V G F k n pc L (.ref x :: st) h Q :=
  fun p e s m args below meth c H locs ls ad cls QW fx fr hp hl hs hL kr => lv_astore_n fx.1 fx.2.1 hd hi hl hn rfl (fun ls' hl' => kk p e s m args below meth c H locs ls' ad cls QW fx fr hp (zq_has1 (v := .ref x) hl') (zq_tt hs) (zq_lok hL (zq_hh hs)) kr)
theorem zq_astore {i x : Nat} (hd : decode F.2.1 pc = .ok (.astore i, 2)) (hn : i < F.2.2.1) (kk : zq_V G F k n (pc + 2) (zq_set1 L i (.ref x)) st h Q) : zq_V G F k n pc L (.ref x :: st) h Q :=
  fun p e s m args below meth c H locs ls ad cls QW fx fr hp hl hs hL kr => lv_astore fx.1 fx.2.1 hd hl hn rfl (fun ls' hl' => kk p e s m args below meth c H locs ls' ad cls QW fx fr hp (zq_has1 (v := .ref x) hl') (zq_tt hs) (zq_lok hL (zq_hh hs)) kr)
theorem zq_iinc {i : Nat} {d : Int} {x : Int32} (hd : decode F.2.1 pc = .ok (.iinc i d, 3)) (hx : L[i]? = some (some (.int x))) (hn : i < F.2.2.1) (kk : zq_V G F k n (pc + 3) (zq_set1 L i (.int (x + Int32.ofInt d))) st h Q) : zq_V G F k n pc L st h Q :=
  fun p e s m args below meth c H locs ls ad cls QW fx fr hp hl hs hL kr => by
    obtain ⟨q, hq⟩ := List.getElem?_of_mem (zq_lv_mem (ad := ad) (q := (i, Value.int x)).mpr ⟨.int x, hx, rfl⟩)
    exact lv_iinc fx.1 fx.2.1 hd hl hq rfl hn rfl (fun ls' hl' => kk p e s m args below meth c H locs ls' ad cls QW fx fr hp (zq_has1 (v := .int (x + Int32.ofInt d)) hl') hs (zq_lok hL trivial) kr)
end ZRULES
