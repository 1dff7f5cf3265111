/-! variants of the rows that name what they make -/
section ZVAR
variable {G : zq_G} {F : zq_C} {k n pc : Nat} {L L' : List (Option Value)} {st : List Value} {h : zq_H} {m : zm} {Q : Option Value → zq_H → Prop}
def zq_le : List (Option Value) → List (Option Value) → Prop
  | [], _ => True
  | none :: a, _ :: b => zq_le a b
  | some v :: a, o :: b => o = some v ∧ zq_le a b
  | _ :: _, [] => False
set_option maxHeartbeats 60000 in
theorem zq_le.at : ∀ {L1 L : List (Option Value)}, zq_le L1 L → ∀ (i : Nat) (v : Value), L1[i]? = some (some v) → L[i]? = some (some v)
  | [], _, _, i, v, h => by simp at h
  | none :: a, _ :: b, hl, 0, v, h => by simp at h
  | none :: a, _ :: b, hl, i + 1, v, h => by
    rw [List.getElem?_cons_succ] at h ⊢
    exact zq_le.at (L1 := a) (L := b) hl i v h
  | some w :: a, o :: b, hl, 0, v, h => by
    rw [List.getElem?_cons_zero] at h ⊢
    cases h
    rw [hl.1]
  | some w :: a, o :: b, hl, i + 1, v, h => by
    rw [List.getElem?_cons_succ] at h ⊢
    exact zq_le.at (L1 := a) (L := b) hl.2 i v h
  | none :: a, [], hl, _, _, _ => absurd hl (fun h => h)
  | some w :: a, [], hl, _, _, _ => absurd hl (fun h => h)
set_option maxHeartbeats 60000 in
theorem zr_less (hl : zq_le L' L) (kk : zq_V G F k n pc L' st h Q) : zq_V G F k n pc L st h Q := zq_less hl.at kk
set_option maxHeartbeats 60000 in
theorem zr_topi {x : Int32} (kk : ∀ y : Int32, y = x → zq_V G F k n pc L (.int y :: st) h Q) : zq_V G F k n pc L (.int x :: st) h Q := kk x rfl
set_option maxHeartbeats 60000 in
theorem zr_topl {x : Int64} (kk : ∀ y : Int64, y = x → zq_V G F k n pc L (.long y :: st) h Q) : zq_V G F k n pc L (.long x :: st) h Q := kk x rfl
set_option maxHeartbeats 60000 in
theorem zr_topr {x : Nat} (kk : ∀ y : Nat, y = x → zq_V G F k n pc L (.ref y :: st) h Q) : zq_V G F k n pc L (.ref x :: st) h Q := kk x rfl
set_option maxHeartbeats 60000 in
theorem zr_istore_n {j : Fin 4} {i : Nat} {x : Int32} (hd : decode F.2.1 pc = .ok (.istore_n j, 1)) (hi : (j : Nat) = i) (hn : i < F.2.2.1) (hl : zq_set1 L i (.int x) = L') (kk : zq_V G F k n (pc + 1) L' st h Q) : zq_V G F k n pc L (.int x :: st) h Q := zq_istore_n hd hi hn (by rw [hl]; exact kk)
set_option maxHeartbeats 60000 in
theorem zr_istore {i : Nat} {x : Int32} (hd : decode F.2.1 pc = .ok (.istore i, 2)) (hn : i < F.2.2.1) (hl : zq_set1 L i (.int x) = L') (kk : zq_V G F k n (pc + 2) L' st h Q) : zq_V G F k n pc L (.int x :: st) h Q := zq_istore hd hn (by rw [hl]; exact kk)
set_option maxHeartbeats 60000 in
theorem zr_lstore_n {j : Fin 4} {i : Nat} {x : Int64} (hd : decode F.2.1 pc = .ok (.lstore_n j, 1)) (hi : (j : Nat) = i) (hn : i + 1 < F.2.2.1) (hl : zq_set2 L i (.long x) = L') (kk : zq_V G F k n (pc + 1) L' st h Q) : zq_V G F k n pc L (.long x :: st) h Q := zq_lstore_n hd hi hn (by rw [hl]; exact kk)
set_option maxHeartbeats 60000 in
theorem zr_lstore {i : Nat} {x : Int64} (hd : decode F.2.1 pc = .ok (.lstore i, 2)) (hn : i + 1 < F.2.2.1) (hl : zq_set2 L i (.long x) = L') (kk : zq_V G F k n (pc + 2) L' st h Q) : zq_V G F k n pc L (.long x :: st) h Q := zq_lstore hd hn (by rw [hl]; exact kk)
set_option maxHeartbeats 60000 in
theorem zr_astore_n {j : Fin 4} {i x : Nat} (hd : decode F.2.1 pc = .ok (.astore_n j, 1)) (hi : (j : Nat) = i) (hn : i < F.2.2.1) (hl : zq_set1 L i (.ref x) = L') (kk : zq_V G F k n (pc + 1) L' st h Q) : zq_V G F k n pc L (.ref x :: st) h Q := zq_astore_n hd hi hn (by rw [hl]; exact kk)
set_option maxHeartbeats 60000 in
theorem zr_astore {i x : Nat} (hd : decode F.2.1 pc = .ok (.astore i, 2)) (hn : i < F.2.2.1) (hl : zq_set1 L i (.ref x) = L') (kk : zq_V G F k n (pc + 2) L' st h Q) : zq_V G F k n pc L (.ref x :: st) h Q := zq_astore hd hn (by rw [hl]; exact kk)
set_option maxHeartbeats 60000 in
theorem zr_iinc {i : Nat} {d : Int} {x d' : Int32} (hd : decode F.2.1 pc = .ok (.iinc i d, 3)) (he : Int32.ofInt d = d') (hx : L[i]? = some (some (.int x))) (hn : i < F.2.2.1) (kk : ∀ y : Int32, y = x + d' → zq_V G F k n (pc + 3) (zq_set1 L i (.int y)) st h Q) : zq_V G F k n pc L st h Q := by
  subst he
  exact zq_iinc hd hx hn (kk _ rfl)
set_option maxHeartbeats 60000 in
theorem zr_L (hl : L = L') (kk : zq_V G F k n pc L' st h Q) : zq_V G F k n pc L st h Q := by rw [hl]; exact kk
set_option maxHeartbeats 60000 in
theorem zr_putI {idx ci j q : Nat} {fs : List Value} {y x : Int32} (hf : zq_FL F.1 idx ci j false) (hd : decode F.2.1 pc = .ok (.putfield idx, 3)) (hs : zm_sh[q]? = some (.inr (ci, fs))) (ht : fs[j]? = some (.int y)) (hy : zq_ft ci j = .int) (kk : ∀ m1, m1 = zm_wI m q j x → zq_V G F k n (pc + 3) L st (zm_hp m1) Q) : zq_V G F k n pc L (.int x :: .ref q :: st) (zm_hp m) Q := zm_putI hf hd hs ht hy (kk _ rfl)
set_option maxHeartbeats 60000 in
theorem zr_putZ {idx ci j q : Nat} {fs : List Value} {y x : Int32} (hf : zq_FL F.1 idx ci j false) (hd : decode F.2.1 pc = .ok (.putfield idx, 3)) (hs : zm_sh[q]? = some (.inr (ci, fs))) (ht : fs[j]? = some (.int y)) (hy : zq_ft ci j = .boolean) (hb : zm_isB x) (kk : ∀ m1, m1 = zm_wI m q j x → zq_V G F k n (pc + 3) L st (zm_hp m1) Q) : zq_V G F k n pc L (.int x :: .ref q :: st) (zm_hp m) Q := zm_putZ hf hd hs ht hy hb (kk _ rfl)
set_option maxHeartbeats 60000 in
theorem zr_putL {idx ci j q : Nat} {fs : List Value} {y x : Int64} (hf : zq_FL F.1 idx ci j false) (hd : decode F.2.1 pc = .ok (.putfield idx, 3)) (hs : zm_sh[q]? = some (.inr (ci, fs))) (ht : fs[j]? = some (.long y)) (hy : zq_ft ci j = .long) (kk : ∀ m1, m1 = zm_wL m q j x → zq_V G F k n (pc + 3) L st (zm_hp m1) Q) : zq_V G F k n pc L (.long x :: .ref q :: st) (zm_hp m) Q := zm_putL hf hd hs ht hy (kk _ rfl)
set_option maxHeartbeats 60000 in
theorem zr_ast {q n0 : Nat} {f : Nat → Int32} {i x : Int32} (hd : decode F.2.1 pc = .ok (.iastore, 1)) (hs : zm_sh[q]? = some (.inl (0, n0, .inl f))) (hin : vp_in i n0) (kk : ∀ m1, m1 = zm_wI m q i.toNatClampNeg x → zq_V G F k n (pc + 1) L st (zm_hp m1) Q) : zq_V G F k n pc L (.int x :: .int i :: .ref q :: st) (zm_hp m) Q := zm_ast hd hs hin (kk _ rfl)
set_option maxHeartbeats 60000 in
theorem zr_zst {q n0 : Nat} {f : Nat → Int32} {i x : Int32} (hd : decode F.2.1 pc = .ok (.bastore, 1)) (hs : zm_sh[q]? = some (.inl (2, n0, .inl f))) (hin : vp_in i n0) (hb : zm_isB x) (kk : ∀ m1, m1 = zm_wI m q i.toNatClampNeg x → zq_V G F k n (pc + 1) L st (zm_hp m1) Q) : zq_V G F k n pc L (.int x :: .int i :: .ref q :: st) (zm_hp m) Q := zm_zst hd hs hin hb (kk _ rfl)
set_option maxHeartbeats 60000 in
theorem zr_lst {q n0 : Nat} {f : Nat → Int64} {i : Int32} {x : Int64} (hd : decode F.2.1 pc = .ok (.lastore, 1)) (hs : zm_sh[q]? = some (.inl (1, n0, .inr (.inl f)))) (hin : vp_in i n0) (kk : ∀ m1, m1 = zm_wL m q i.toNatClampNeg x → zq_V G F k n (pc + 1) L st (zm_hp m1) Q) : zq_V G F k n pc L (.long x :: .int i :: .ref q :: st) (zm_hp m) Q := zm_lst hd hs hin (kk _ rfl)
end ZVAR
/-! what a method's end says of its answer and the memory -/
def zm_QI (K : Int32 → zm → Prop) : Option Value → zq_H → Prop := fun v h => ∃ r m, v = some (.int r) ∧ h = zm_hp m ∧ K r m
def zm_QL (K : Int64 → zm → Prop) : Option Value → zq_H → Prop := fun v h => ∃ r m, v = some (.long r) ∧ h = zm_hp m ∧ K r m
def zm_QV (K : zm → Prop) : Option Value → zq_H → Prop := fun v h => ∃ m, v = none ∧ h = zm_hp m ∧ K m
set_option maxHeartbeats 60000 in
theorem zr_sw {x : Int32} {hi : Nat} (hh : hi < 100) (h : ¬ (x.toInt < 0 ∨ (hi : Int) < x.toInt)) : ∃ j : Nat, j ≤ hi ∧ x = nI j ∧ x.toInt = j := by
  have h1 : 0 ≤ x.toInt := by omega
  have h2 : x.toInt ≤ hi := by omega
  refine ⟨x.toInt.toNat, by omega, Int32.toInt_inj.mp ?_, by omega⟩
  rw [nI_toInt (by omega)]
  omega
section ZCV
variable {G : zq_G} {F : zq_C} {k n pc : Nat} {L : List (Option Value)} {st st0 : List Value} {m : zm} {Q : Option Value → zq_H → Prop}
set_option maxHeartbeats 60000 in
theorem zr_csI {idx na d : Nat} {M : zq_Md} {as : List Value} {K : Int32 → zm → Prop} (hd : decode F.2.1 pc = .ok (.invokestatic idx, 3)) (hC : zq_CC F.1 idx M na) (hw : Cond.static M.1 ∈ zq_ws) (hM : zq_Mt G M d 0 0 as (zm_hp m) (zm_QI K)) (hna : as.length = na) (hR : d + 1 ≤ F.2.2.2.2.2.frames ∧ (d + 1) * 100 ≤ F.2.2.2.2.2.locals) (hst : (st.map fun v => v.category).sum ≤ 8) (hc : k ≤ F.2.2.2.2.2.cells ∧ n ≤ F.2.2.2.2.2.slots) (he : as.reverse ++ st = st0) (kk : ∀ r m', K r m' → zq_V G F k n (pc + 3) L (.int r :: st) (zm_hp m') Q) : zq_V G F k n pc L st0 (zm_hp m) Q := by
  subst he
  exact zq_calls hd hC hw hM hna hR hst hc.1 hc.2 (fun v h' hq => by obtain ⟨r, m', hv, hh, hk⟩ := hq; rw [hv, hh]; exact kk r m' hk)
set_option maxHeartbeats 60000 in
theorem zr_csL {idx na d : Nat} {M : zq_Md} {as : List Value} {K : Int64 → zm → Prop} (hd : decode F.2.1 pc = .ok (.invokestatic idx, 3)) (hC : zq_CC F.1 idx M na) (hw : Cond.static M.1 ∈ zq_ws) (hM : zq_Mt G M d 0 0 as (zm_hp m) (zm_QL K)) (hna : as.length = na) (hR : d + 1 ≤ F.2.2.2.2.2.frames ∧ (d + 1) * 100 ≤ F.2.2.2.2.2.locals) (hst : (st.map fun v => v.category).sum ≤ 8) (hc : k ≤ F.2.2.2.2.2.cells ∧ n ≤ F.2.2.2.2.2.slots) (he : as.reverse ++ st = st0) (kk : ∀ r m', K r m' → zq_V G F k n (pc + 3) L (.long r :: st) (zm_hp m') Q) : zq_V G F k n pc L st0 (zm_hp m) Q := by
  subst he
  exact zq_calls hd hC hw hM hna hR hst hc.1 hc.2 (fun v h' hq => by obtain ⟨r, m', hv, hh, hk⟩ := hq; rw [hv, hh]; exact kk r m' hk)
set_option maxHeartbeats 60000 in
theorem zr_csV {idx na d : Nat} {M : zq_Md} {as : List Value} {K : zm → Prop} (hd : decode F.2.1 pc = .ok (.invokestatic idx, 3)) (hC : zq_CC F.1 idx M na) (hw : Cond.static M.1 ∈ zq_ws) (hM : zq_Mt G M d 0 0 as (zm_hp m) (zm_QV K)) (hna : as.length = na) (hR : d + 1 ≤ F.2.2.2.2.2.frames ∧ (d + 1) * 100 ≤ F.2.2.2.2.2.locals) (hst : (st.map fun v => v.category).sum ≤ 8) (hc : k ≤ F.2.2.2.2.2.cells ∧ n ≤ F.2.2.2.2.2.slots) (he : as.reverse ++ st = st0) (kk : ∀ m', K m' → zq_V G F k n (pc + 3) L st (zm_hp m') Q) : zq_V G F k n pc L st0 (zm_hp m) Q := by
  subst he
  exact zq_calls hd hC hw hM hna hR hst hc.1 hc.2 (fun v h' hq => by obtain ⟨m', hv, hh, hk⟩ := hq; rw [hv, hh]; exact kk m' hk)
set_option maxHeartbeats 60000 in
theorem zr_cvI {idx na d q ci N : Nat} {T : u_T} {fs : List Value} {M : zq_Md} {as : List Value} {K : Int32 → zm → Prop} (hd : decode F.2.1 pc = .ok (.invokevirtual idx, 3)) (hC : zq_CC F.1 idx M na) (hw : Cond.instanceMethod M.1 ∈ zq_ws ∧ Cond.selects M.1.cls M.1 M.1 ∈ zq_ws ∧ zq_cl[ci]? = some (M.1.cls, T, N)) (hs : zm_sh[q]? = some (.inr (ci, fs))) (hM : zq_Mt G M d 0 0 (.ref q :: as) (zm_hp m) (zm_QI K)) (hna : as.length = na) (hR : d + 1 ≤ F.2.2.2.2.2.frames ∧ (d + 1) * 100 ≤ F.2.2.2.2.2.locals) (hst : (st.map fun v => v.category).sum ≤ 8) (hc : k ≤ F.2.2.2.2.2.cells ∧ n ≤ F.2.2.2.2.2.slots) (he : as.reverse ++ .ref q :: st = st0) (kk : ∀ r m', K r m' → zq_V G F k n (pc + 3) L (.int r :: st) (zm_hp m') Q) : zq_V G F k n pc L st0 (zm_hp m) Q := by
  subst he
  exact zq_callv hd hC hw (zm_at hs) hM hna hR hst hc.1 hc.2 (fun v h' hq => by obtain ⟨r, m', hv, hh, hk⟩ := hq; rw [hv, hh]; exact kk r m' hk)
set_option maxHeartbeats 60000 in
theorem zr_cvL {idx na d q ci N : Nat} {T : u_T} {fs : List Value} {M : zq_Md} {as : List Value} {K : Int64 → zm → Prop} (hd : decode F.2.1 pc = .ok (.invokevirtual idx, 3)) (hC : zq_CC F.1 idx M na) (hw : Cond.instanceMethod M.1 ∈ zq_ws ∧ Cond.selects M.1.cls M.1 M.1 ∈ zq_ws ∧ zq_cl[ci]? = some (M.1.cls, T, N)) (hs : zm_sh[q]? = some (.inr (ci, fs))) (hM : zq_Mt G M d 0 0 (.ref q :: as) (zm_hp m) (zm_QL K)) (hna : as.length = na) (hR : d + 1 ≤ F.2.2.2.2.2.frames ∧ (d + 1) * 100 ≤ F.2.2.2.2.2.locals) (hst : (st.map fun v => v.category).sum ≤ 8) (hc : k ≤ F.2.2.2.2.2.cells ∧ n ≤ F.2.2.2.2.2.slots) (he : as.reverse ++ .ref q :: st = st0) (kk : ∀ r m', K r m' → zq_V G F k n (pc + 3) L (.long r :: st) (zm_hp m') Q) : zq_V G F k n pc L st0 (zm_hp m) Q := by
  subst he
  exact zq_callv hd hC hw (zm_at hs) hM hna hR hst hc.1 hc.2 (fun v h' hq => by obtain ⟨r, m', hv, hh, hk⟩ := hq; rw [hv, hh]; exact kk r m' hk)
set_option maxHeartbeats 60000 in
theorem zr_cvV {idx na d q ci N : Nat} {T : u_T} {fs : List Value} {M : zq_Md} {as : List Value} {K : zm → Prop} (hd : decode F.2.1 pc = .ok (.invokevirtual idx, 3)) (hC : zq_CC F.1 idx M na) (hw : Cond.instanceMethod M.1 ∈ zq_ws ∧ Cond.selects M.1.cls M.1 M.1 ∈ zq_ws ∧ zq_cl[ci]? = some (M.1.cls, T, N)) (hs : zm_sh[q]? = some (.inr (ci, fs))) (hM : zq_Mt G M d 0 0 (.ref q :: as) (zm_hp m) (zm_QV K)) (hna : as.length = na) (hR : d + 1 ≤ F.2.2.2.2.2.frames ∧ (d + 1) * 100 ≤ F.2.2.2.2.2.locals) (hst : (st.map fun v => v.category).sum ≤ 8) (hc : k ≤ F.2.2.2.2.2.cells ∧ n ≤ F.2.2.2.2.2.slots) (he : as.reverse ++ .ref q :: st = st0) (kk : ∀ m', K m' → zq_V G F k n (pc + 3) L st (zm_hp m') Q) : zq_V G F k n pc L st0 (zm_hp m) Q := by
  subst he
  exact zq_callv hd hC hw (zm_at hs) hM hna hR hst hc.1 hc.2 (fun v h' hq => by obtain ⟨m', hv, hh, hk⟩ := hq; rw [hv, hh]; exact kk m' hk)
end ZCV
set_option maxHeartbeats 60000 in
theorem zs_Table : zm_sh[0]? = some (.inr (0, zm_f_Table)) := rfl
set_option maxHeartbeats 60000 in
theorem zs_Judge : zm_sh[2]? = some (.inr (4, zm_f_Judge)) := rfl
set_option maxHeartbeats 60000 in
theorem zs_Splitter : zm_sh[3]? = some (.inr (5, zm_f_Splitter)) := rfl
set_option maxHeartbeats 60000 in
theorem zs_Wall : zm_sh[11]? = some (.inr (1, zm_f_Wall)) := rfl
set_option maxHeartbeats 60000 in
theorem zs_Model : zm_sh[33]? = some (.inr (6, zm_f_Model)) := rfl
section ZMATH
variable {G : zq_G} {F : zq_C} {k n pc : Nat} {L : List (Option Value)} {st : List Value} {h : zq_H} {Q : Option Value → zq_H → Prop}
theorem zq_cats {ad : Nat → Nat} {st : List Value} : ((st.map (zq_v ad)).map fun v => v.category) = st.map fun v => v.category := by simp [List.map_map, Function.comp_def, zq_v_cat]
theorem zq_mmax {idx : Nat} {x y : Int32} (hd : decode F.2.1 pc = .ok (.invokestatic idx, 3)) (hw1 : Cond.methodLink F.1 idx Lib.Math.max.name ∈ zq_ws) (hw2 : Cond.static Lib.Math.max.name ∈ zq_ws) (hw3 : Cond.initialized "java/lang/Math" ∈ zq_ws) (hw4 : Cond.code Lib.Math.max.name Lib.Math.max.code 2 (some .int) ∈ zq_ws) (hf : 1 ≤ F.2.2.2.2.2.frames) (hlo : (st.map fun v => v.category).sum + 13 ≤ F.2.2.2.2.2.locals) (hc : k ≤ F.2.2.2.2.2.cells) (hn : n ≤ F.2.2.2.2.2.slots) (kk : zq_V G F k n (pc + 3) L (.int (if x < y then y else x) :: st) h Q) : zq_V G F k n pc L (.int y :: .int x :: st) h Q :=
  fun p e s m args below meth c H locs ls ad cls QW fx fr hp hl hs hL kr => va_mmax fx.1 fx.2.1 (fx.2.2.1.trans hl.1.symm) fx.2.2.2.1 (fx.2.2.2.2.1 _ hw1) (fx.2.2.2.2.1 _ hw2) (fx.2.2.2.2.1 _ hw3) (fx.2.2.2.2.1 _ hw4) hf (by rw [zq_cats]; exact hlo) hc hn hd (kk p e s m args below meth c H locs ls ad cls QW fx fr hp hl (zq_cc trivial (zq_tt (zq_tt hs))) hL kr)
theorem zq_mmin {idx : Nat} {x y : Int32} (hd : decode F.2.1 pc = .ok (.invokestatic idx, 3)) (hw1 : Cond.methodLink F.1 idx Lib.Math.min.name ∈ zq_ws) (hw2 : Cond.static Lib.Math.min.name ∈ zq_ws) (hw3 : Cond.initialized "java/lang/Math" ∈ zq_ws) (hw4 : Cond.code Lib.Math.min.name Lib.Math.min.code 2 (some .int) ∈ zq_ws) (hf : 1 ≤ F.2.2.2.2.2.frames) (hlo : (st.map fun v => v.category).sum + 13 ≤ F.2.2.2.2.2.locals) (hc : k ≤ F.2.2.2.2.2.cells) (hn : n ≤ F.2.2.2.2.2.slots) (kk : zq_V G F k n (pc + 3) L (.int (if y < x then y else x) :: st) h Q) : zq_V G F k n pc L (.int y :: .int x :: st) h Q :=
  fun p e s m args below meth c H locs ls ad cls QW fx fr hp hl hs hL kr => va_mmin fx.1 fx.2.1 (fx.2.2.1.trans hl.1.symm) fx.2.2.2.1 (fx.2.2.2.2.1 _ hw1) (fx.2.2.2.2.1 _ hw2) (fx.2.2.2.2.1 _ hw3) (fx.2.2.2.2.1 _ hw4) hf (by rw [zq_cats]; exact hlo) hc hn hd (kk p e s m args below meth c H locs ls ad cls QW fx fr hp hl (zq_cc trivial (zq_tt (zq_tt hs))) hL kr)
end ZMATH
