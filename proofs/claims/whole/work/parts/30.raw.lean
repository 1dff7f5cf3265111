/-! CONSTRUCTORS: the heap is a part B that is there already, of b cells, and the cells X that come -/
section ZRAW
variable {G : zq_G} {F : zq_C} {k n pc b : Nat} {L : List (Option Value)} {st st0 : List Value} {B X X' : zq_H} {Q : Option Value → zq_H → Prop}
theorem zw_at (hB : B.length = b) {q j : Nat} (hq : b + j = q) {e : zq_E} (h : X[j]? = some e) : (B ++ X)[q]? = some e := by
  subst hq; subst hB
  rw [List.getElem?_append_right (Nat.le_add_right _ _), Nat.add_sub_cancel_left]
  exact h
theorem zw_set (hB : B.length = b) {q j : Nat} (hq : b + j = q) {e : zq_E} (h : X.set j e = X') : (B ++ X).set q e = B ++ X' := by
  subst hq; subst hB
  rw [List.set_append_right _ _ (Nat.le_add_right _ _), Nat.add_sub_cancel_left, h]
theorem zw_new {idx ci N q : Nat} {C : String} {T : u_T} {fs : List Value} (hB : B.length = b) (hq : b + X.length = q) (hd : decode F.2.1 pc = .ok (.new idx, 3)) (hcl : zq_cl[ci]? = some (C, T, N)) (hw : Cond.classLink F.1 idx C ∈ zq_ws) (hw2 : Cond.instantiable C N ∈ zq_ws) (hw3 : Cond.initialized C ∈ zq_ws) (hfs : ∀ j, j < N → defaultValue (zq_ft ci j) = vp_V fs j) (hno : ∀ v ∈ fs, zq_ok 0 v) (hid : ∀ ad, fs.map (zq_v ad) = fs) (hlen : q + 1 < zq_B) (hc : k + 1 ≤ F.2.2.2.2.2.cells) (hs1 : n + N ≤ F.2.2.2.2.2.slots) (hX : X ++ [.inr (ci, fs)] = X') (kk : zq_V G F (k + 1) (n + N) (pc + 3) L (.ref q :: st) (B ++ X') Q) : zq_V G F k n pc L st (B ++ X) Q := by
  have hl : (B ++ X).length = q := by rw [List.length_append, hB, hq]
  refine zq_new hd hcl hw hw2 hw3 hfs hno ⟨hid _, hid⟩ (by rw [hl]; exact hlen) hc hs1 ?_
  rw [hl, List.append_assoc, hX]
  exact kk
theorem zw_newi {q : Nat} {x : Int32} {N : Nat} (hB : B.length = b) (hq : b + X.length = q) (hd : decode F.2.1 pc = .ok (.newarray .int, 2)) (hw : Cond.arrayClass .int ∈ zq_ws) (hx : ¬ x < 0) (hN : x.toNatClampNeg = N) (hb : N * 4 ≤ 536870912) (hlen : q + 1 < zq_B) (hc : k + 1 ≤ F.2.2.2.2.2.cells) (hs1 : n + N ≤ F.2.2.2.2.2.slots) (hX : X ++ [.inl (0, N, .inl (fun _ => 0))] = X') (kk : zq_V G F (k + 1) (n + N) (pc + 2) L (.ref q :: st) (B ++ X') Q) : zq_V G F k n pc L (.int x :: st) (B ++ X) Q := by
  have hl : (B ++ X).length = q := by rw [List.length_append, hB, hq]
  refine zq_newi hd hw hx hN hb (by rw [hl]; exact hlen) hc hs1 ?_
  rw [hl, List.append_assoc, hX]
  exact kk
theorem zw_newl {q : Nat} {x : Int32} {N : Nat} (hB : B.length = b) (hq : b + X.length = q) (hd : decode F.2.1 pc = .ok (.newarray .long, 2)) (hw : Cond.arrayClass .long ∈ zq_ws) (hx : ¬ x < 0) (hN : x.toNatClampNeg = N) (hb : N * 8 ≤ 536870912) (hlen : q + 1 < zq_B) (hc : k + 1 ≤ F.2.2.2.2.2.cells) (hs1 : n + N ≤ F.2.2.2.2.2.slots) (hX : X ++ [.inl (1, N, .inr (.inl (fun _ => 0)))] = X') (kk : zq_V G F (k + 1) (n + N) (pc + 2) L (.ref q :: st) (B ++ X') Q) : zq_V G F k n pc L (.int x :: st) (B ++ X) Q := by
  have hl : (B ++ X).length = q := by rw [List.length_append, hB, hq]
  refine zq_newl hd hw hx hN hb (by rw [hl]; exact hlen) hc hs1 ?_
  rw [hl, List.append_assoc, hX]
  exact kk
theorem zw_newz {q : Nat} {x : Int32} {N : Nat} (hB : B.length = b) (hq : b + X.length = q) (hd : decode F.2.1 pc = .ok (.newarray .boolean, 2)) (hw : Cond.arrayClass .boolean ∈ zq_ws) (hx : ¬ x < 0) (hN : x.toNatClampNeg = N) (hb : N * 1 ≤ 536870912) (hlen : q + 1 < zq_B) (hc : k + 1 ≤ F.2.2.2.2.2.cells) (hs1 : n + N ≤ F.2.2.2.2.2.slots) (hX : X ++ [.inl (2, N, .inl (fun _ => 0))] = X') (kk : zq_V G F (k + 1) (n + N) (pc + 2) L (.ref q :: st) (B ++ X') Q) : zq_V G F k n pc L (.int x :: st) (B ++ X) Q := by
  have hl : (B ++ X).length = q := by rw [List.length_append, hB, hq]
  refine zq_newz hd hw hx hN hb (by rw [hl]; exact hlen) hc hs1 ?_
  rw [hl, List.append_assoc, hX]
  exact kk
theorem zw_newq {idx q : Nat} {x : Int32} {N : Nat} (hB : B.length = b) (hq : b + X.length = q) (hd : decode F.2.1 pc = .ok (.anewarray idx, 3)) (hw : Cond.classLink F.1 idx "RiichiTable$Player" ∈ zq_ws) (hx : ¬ x < 0) (hN : x.toNatClampNeg = N) (hb : N * 4 ≤ 536870912) (hlen : q + 1 < zq_B) (hc : k + 1 ≤ F.2.2.2.2.2.cells) (hs1 : n + N ≤ F.2.2.2.2.2.slots) (hX : X ++ [.inl (3, N, .inr (.inr (.inr (.inr (fun _ => none)))))] = X') (kk : zq_V G F (k + 1) (n + N) (pc + 3) L (.ref q :: st) (B ++ X') Q) : zq_V G F k n pc L (.int x :: st) (B ++ X) Q := by
  have hl : (B ++ X).length = q := by rw [List.length_append, hB, hq]
  refine zq_newq hd hw hx hN hb (by rw [hl]; exact hlen) hc hs1 ?_
  rw [hl, List.append_assoc, hX]
  exact kk
theorem zw_get {idx ci j q i : Nat} {fs : List Value} {v : Value} (hB : B.length = b) (hq : b + i = q) (hX : X[i]? = some (.inr (ci, fs))) (hv : fs[j]? = some v) (hf : zq_FG F.1 idx ci j) (hd : decode F.2.1 pc = .ok (.getfield idx, 3)) (kk : zq_V G F k n (pc + 3) L (v :: st) (B ++ X) Q) : zq_V G F k n pc L (.ref q :: st) (B ++ X) Q := zq_get hf hd (zw_at hB hq hX) hv kk
theorem zw_put {idx ci j q i : Nat} {fs : List Value} {v : Value} (hB : B.length = b) (hq : b + i = q) (hX : X[i]? = some (.inr (ci, fs))) (hf : zq_FL F.1 idx ci j false) (hd : decode F.2.1 pc = .ok (.putfield idx, 3)) (hl1 : j < fs.length) (hn : narrow (zq_ft ci j) v = v) (hfit : fits (zq_ft ci j) v = true) (hX' : X.set i (.inr (ci, fs.set j v)) = X') (kk : zq_V G F k n (pc + 3) L st (B ++ X') Q) : zq_V G F k n pc L (v :: .ref q :: st) (B ++ X) Q :=
  zq_put hf hd (zw_at hB hq hX) hl1 hn hfit (by rw [zw_set hB hq hX']; exact kk)
theorem zw_putF {idx ci j q i : Nat} {fs : List Value} {v : Value} (hB : B.length = b) (hq : b + i = q) (hX : X[i]? = some (.inr (ci, fs))) (hf : zq_FL F.1 idx ci j true) (hi : F.2.2.2.2.1 = true) (hlk : ∃ (C : String) (T : u_T) (N : Nat), zq_cl[ci]? = some (C, T, N) ∧ Cond.fieldLink F.1 idx (T j).1 (T j).2.1 (T j).2.2.1 ∈ zq_ws) (hd : decode F.2.1 pc = .ok (.putfield idx, 3)) (hl1 : j < fs.length) (hn : narrow (zq_ft ci j) v = v) (hfit : fits (zq_ft ci j) v = true) (hX' : X.set i (.inr (ci, fs.set j v)) = X') (kk : zq_V G F k n (pc + 3) L st (B ++ X') Q) : zq_V G F k n pc L (v :: .ref q :: st) (B ++ X) Q :=
  zq_putF hf hi hlk hd (zw_at hB hq hX) hl1 hn hfit (by rw [zw_set hB hq hX']; exact kk)
theorem zw_aastore {q i m0 y iy : Nat} {fs : List Value} {f : Nat → Option Nat} {x : Int32} (hB : B.length = b) (hq : b + i = q) (hX : X[i]? = some (.inl (3, m0, .inr (.inr (.inr (.inr f)))))) (hy : b + iy = y) (hXy : X[iy]? = some (.inr (2, fs))) (hd : decode F.2.1 pc = .ok (.aastore, 1)) (hin : vp_in x m0) (hX' : X.set i (.inl (3, m0, .inr (.inr (.inr (.inr (va_up f x.toNatClampNeg (some y))))))) = X') (kk : zq_V G F k n (pc + 1) L st (B ++ X') Q) : zq_V G F k n pc L (.ref y :: .int x :: .ref q :: st) (B ++ X) Q :=
  zq_aastore hd (zw_at hB hq hX) hin (zw_at hB hy hXy) (by rw [zw_set hB hq hX']; exact kk)
/-- a constructor's end: nothing but the cells -/
def zw_Q (h' : zq_H) : Option Value → zq_H → Prop := fun v h => v = none ∧ h = h'
theorem zw_calln {idx na d mc ms q : Nat} {y : MethodName} {bc : ByteArray} {nL : Nat} {as : List Value} {h h' : zq_H} (hd : decode F.2.1 pc = .ok (.invokespecial idx, 3)) (hC : zq_CC F.1 idx (y, bc, nL, none) na) (hw : Cond.instanceMethod y ∈ zq_ws ∧ y.name = "<init>") (hM : zq_Mt G (y, bc, nL, none) d mc ms (.ref q :: as) h (zw_Q h')) (hna : as.length = na) (hR : d + 1 ≤ F.2.2.2.2.2.frames ∧ (d + 1) * 100 ≤ F.2.2.2.2.2.locals) (hst : (st.map fun v => v.category).sum ≤ 8) (hc : k + mc ≤ F.2.2.2.2.2.cells) (hn : n + ms ≤ F.2.2.2.2.2.slots) (he : as.reverse ++ .ref q :: st = st0)
    (kk : zq_V G F (k + mc) (n + ms) (pc + 3) L st h' Q) : zq_V G F k n pc L st0 h Q := by
  subst he
  exact zq_calln hd hC hw hM hna hR hst hc hn (fun v h2 hq => by obtain ⟨hv, hh⟩ := hq; rw [hv, hh]; exact kk)
theorem zw_vret {h : zq_H} (hd : decode F.2.1 pc = .ok (.return_, 1)) (ht : F.2.2.2.1 = none) (hc : k ≤ F.2.2.2.2.2.cells) (hs1 : n ≤ F.2.2.2.2.2.slots) : zq_V G F k n pc L [] h (zw_Q h) := zq_vret hd ht hc hs1 ⟨rfl, rfl⟩
end ZRAW
