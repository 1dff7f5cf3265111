def zn_sh : List zq_E := zm_sh.take 33
noncomputable def zn_bx : { f : zm → zq_H // ∀ m, f m = zn_sh.mapIdx (fun q e => zm_i m q e) } := Classical.choice ⟨⟨fun m => zn_sh.mapIdx (fun q e => zm_i m q e), fun _ => rfl⟩⟩
noncomputable def zn_hp (m : zm) : zq_H := zn_bx.1 m
theorem zn_hp_eq (m : zm) : zn_hp m = zn_sh.mapIdx (fun q e => zm_i m q e) := zn_bx.2 m
theorem zn_at {m : zm} {q : Nat} {e : zq_E} (h : zn_sh[q]? = some e) : (zn_hp m)[q]? = some (zm_i m q e) := by
  rw [zn_hp_eq, List.getElem?_mapIdx, h]; rfl
theorem zn_other {m m' : zm} {q : Nat} (h1 : ∀ a b, a ≠ q → m'.1 a b = m.1 a b) (h2 : ∀ a b, a ≠ q → m'.2 a b = m.2 a b) {e : zq_E} (he : ∀ e0, zn_sh[q]? = some e0 → zm_i m' q e0 = e) : (zn_hp m).set q e = zn_hp m' := by
  apply List.ext_getElem?
  intro i
  rw [List.getElem?_set]
  simp only [zn_hp_eq, List.getElem?_mapIdx, List.length_mapIdx]
  by_cases hi : q = i
  · subst hi
    simp only [if_pos]
    by_cases hl : q < zn_sh.length
    · rw [if_pos hl]
      have h3 : zn_sh[q]? = some zn_sh[q] := List.getElem?_eq_getElem hl
      rw [h3]
      simp only [Option.map_some]
      rw [he _ h3]
    · rw [if_neg hl, List.getElem?_eq_none (by omega)]
      rfl
  · rw [if_neg hi]
    cases hz : zn_sh[i]? with
    | none => rfl
    | some e0 =>
      simp only [Option.map_some]
      congr 1
      match e0 with
      | .inl (t, n, .inl f) => simp only [zm_i]; congr 4; funext j; rw [h1 i j (Ne.symm hi)]
      | .inl (t, n, .inr (.inl f)) => simp only [zm_i]; congr 5; funext j; rw [h2 i j (Ne.symm hi)]
      | .inl (t, n, .inr (.inr x)) => rfl
      | .inr (ci, fs) =>
        simp only [zm_i]
        congr 2
        apply List.ext_getElem?
        intro j
        simp only [List.getElem?_mapIdx]
        cases fs[j]? with
        | none => rfl
        | some v => simp only [Option.map_some]; cases v <;> simp [zm_iv, h1 i j (Ne.symm hi), h2 i j (Ne.symm hi)]
theorem zn_setI {m : zm} {q ci j : Nat} {fs : List Value} {y x : Int32} (hs : zn_sh[q]? = some (.inr (ci, fs))) (ht : fs[j]? = some (.int y)) : (zn_hp m).set q (.inr (ci, (fs.mapIdx (fun j v => zm_iv m q j v)).set j (.int x))) = zn_hp (zm_wI m q j x) := by
  have h1 : ∀ a b, a ≠ q → (zm_wI m q j x).1 a b = m.1 a b := fun a b h => by simp [zm_wI, h]
  have h2 : ∀ a b, a ≠ q → (zm_wI m q j x).2 a b = m.2 a b := fun a b h => by simp [zm_wI]
  refine zn_other (m := m) (m' := zm_wI m q j x) (q := q) h1 h2 ?_
  intro e0 h0
  rw [hs] at h0
  cases h0
  simp only [zm_i]
  congr 2
  apply List.ext_getElem?
  intro i
  rw [List.getElem?_set]
  simp only [List.getElem?_mapIdx, List.length_mapIdx]
  by_cases hi : j = i
  · subst hi
    rw [ht, if_pos rfl, if_pos (List.getElem?_eq_some_iff.mp ht).1]
    simp [zm_iv, zm_wI]
  · rw [if_neg hi]
    cases fs[i]? with
    | none => rfl
    | some v => simp only [Option.map_some]; cases v <;> simp [zm_iv, zm_wI, Ne.symm hi]
theorem zn_setL {m : zm} {q ci j : Nat} {fs : List Value} {y x : Int64} (hs : zn_sh[q]? = some (.inr (ci, fs))) (ht : fs[j]? = some (.long y)) : (zn_hp m).set q (.inr (ci, (fs.mapIdx (fun j v => zm_iv m q j v)).set j (.long x))) = zn_hp (zm_wL m q j x) := by
  have h1 : ∀ a b, a ≠ q → (zm_wL m q j x).1 a b = m.1 a b := fun a b h => by simp [zm_wL]
  have h2 : ∀ a b, a ≠ q → (zm_wL m q j x).2 a b = m.2 a b := fun a b h => by simp [zm_wL, h]
  refine zn_other (m := m) (m' := zm_wL m q j x) (q := q) h1 h2 ?_
  intro e0 h0
  rw [hs] at h0
  cases h0
  simp only [zm_i]
  congr 2
  apply List.ext_getElem?
  intro i
  rw [List.getElem?_set]
  simp only [List.getElem?_mapIdx, List.length_mapIdx]
  by_cases hi : j = i
  · subst hi
    rw [ht, if_pos rfl, if_pos (List.getElem?_eq_some_iff.mp ht).1]
    simp [zm_iv, zm_wL]
  · rw [if_neg hi]
    cases fs[i]? with
    | none => rfl
    | some v => simp only [Option.map_some]; cases v <;> simp [zm_iv, zm_wL, Ne.symm hi]
theorem zn_setA {m : zm} {q t n i : Nat} {f : Nat → Int32} {x : Int32} (hs : zn_sh[q]? = some (.inl (t, n, .inl f))) : (zn_hp m).set q (.inl (t, n, .inl (upd (fun j => m.1 q j) i x))) = zn_hp (zm_wI m q i x) := by
  have h1 : ∀ a b, a ≠ q → (zm_wI m q i x).1 a b = m.1 a b := fun a b h => by simp [zm_wI, h]
  have h2 : ∀ a b, a ≠ q → (zm_wI m q i x).2 a b = m.2 a b := fun a b h => by simp [zm_wI]
  refine zn_other (m := m) (m' := zm_wI m q i x) (q := q) h1 h2 ?_
  intro e0 h0
  rw [hs] at h0
  cases h0
  simp only [zm_i]
  congr 4
  funext j
  simp [zm_wI, upd]
theorem zn_setB {m : zm} {q t n i : Nat} {f : Nat → Int64} {x : Int64} (hs : zn_sh[q]? = some (.inl (t, n, .inr (.inl f)))) : (zn_hp m).set q (.inl (t, n, .inr (.inl (vp_updL (fun j => m.2 q j) i x)))) = zn_hp (zm_wL m q i x) := by
  have h1 : ∀ a b, a ≠ q → (zm_wL m q i x).1 a b = m.1 a b := fun a b h => by simp [zm_wL]
  have h2 : ∀ a b, a ≠ q → (zm_wL m q i x).2 a b = m.2 a b := fun a b h => by simp [zm_wL, h]
  refine zn_other (m := m) (m' := zm_wL m q i x) (q := q) h1 h2 ?_
  intro e0 h0
  rw [hs] at h0
  cases h0
  simp only [zm_i]
  congr 5
  funext j
  simp [zm_wL, vp_updL]
section ZNR
variable {G : zq_G} {F : zq_C} {k n pc : Nat} {L : List (Option Value)} {st : List Value} {m : zm} {Q : Option Value → zq_H → Prop}
theorem zn_ivs {fs : List Value} {q j : Nat} {v : Value} (h : fs[j]? = some v) : (fs.mapIdx (fun j v => zm_iv m q j v))[j]? = some (zm_iv m q j v) := by rw [List.getElem?_mapIdx, h]; rfl
theorem zn_getI {idx ci j q : Nat} {fs : List Value} {y : Int32} (hf : zq_FG F.1 idx ci j) (hd : decode F.2.1 pc = .ok (.getfield idx, 3)) (hs : zn_sh[q]? = some (.inr (ci, fs))) (ht : fs[j]? = some (.int y)) (kk : zq_V G F k n (pc + 3) L (.int (m.1 q j) :: st) (zn_hp m) Q) : zq_V G F k n pc L (.ref q :: st) (zn_hp m) Q := zq_get hf hd (zn_at hs) (zn_ivs ht) kk
theorem zn_getL {idx ci j q : Nat} {fs : List Value} {y : Int64} (hf : zq_FG F.1 idx ci j) (hd : decode F.2.1 pc = .ok (.getfield idx, 3)) (hs : zn_sh[q]? = some (.inr (ci, fs))) (ht : fs[j]? = some (.long y)) (kk : zq_V G F k n (pc + 3) L (.long (m.2 q j) :: st) (zn_hp m) Q) : zq_V G F k n pc L (.ref q :: st) (zn_hp m) Q := zq_get hf hd (zn_at hs) (zn_ivs ht) kk
theorem zn_getR {idx ci j q y : Nat} {fs : List Value} (hf : zq_FG F.1 idx ci j) (hd : decode F.2.1 pc = .ok (.getfield idx, 3)) (hs : zn_sh[q]? = some (.inr (ci, fs))) (ht : fs[j]? = some (.ref y)) (kk : zq_V G F k n (pc + 3) L (.ref y :: st) (zn_hp m) Q) : zq_V G F k n pc L (.ref q :: st) (zn_hp m) Q := zq_get hf hd (zn_at hs) (zn_ivs ht) kk
theorem zn_putI {idx ci j q : Nat} {fs : List Value} {y x : Int32} (hf : zq_FL F.1 idx ci j false) (hd : decode F.2.1 pc = .ok (.putfield idx, 3)) (hs : zn_sh[q]? = some (.inr (ci, fs))) (ht : fs[j]? = some (.int y)) (hy : zq_ft ci j = .int) (kk : zq_V G F k n (pc + 3) L st (zn_hp (zm_wI m q j x)) Q) : zq_V G F k n pc L (.int x :: .ref q :: st) (zn_hp m) Q :=
  zq_put hf hd (zn_at hs) (by rw [List.length_mapIdx]; exact (List.getElem?_eq_some_iff.mp ht).1) (by rw [hy]; rfl) (by rw [hy]; rfl) (by rw [zn_setI hs ht]; exact kk)
theorem zn_putZ {idx ci j q : Nat} {fs : List Value} {y x : Int32} (hf : zq_FL F.1 idx ci j false) (hd : decode F.2.1 pc = .ok (.putfield idx, 3)) (hs : zn_sh[q]? = some (.inr (ci, fs))) (ht : fs[j]? = some (.int y)) (hy : zq_ft ci j = .boolean) (hb : zm_isB x) (kk : zq_V G F k n (pc + 3) L st (zn_hp (zm_wI m q j x)) Q) : zq_V G F k n pc L (.int x :: .ref q :: st) (zn_hp m) Q :=
  zq_put hf hd (zn_at hs) (by rw [List.length_mapIdx]; exact (List.getElem?_eq_some_iff.mp ht).1) (by rw [hy]; exact hb.nar) (by rw [hy]; exact hb.fit) (by rw [zn_setI hs ht]; exact kk)
theorem zn_putL {idx ci j q : Nat} {fs : List Value} {y x : Int64} (hf : zq_FL F.1 idx ci j false) (hd : decode F.2.1 pc = .ok (.putfield idx, 3)) (hs : zn_sh[q]? = some (.inr (ci, fs))) (ht : fs[j]? = some (.long y)) (hy : zq_ft ci j = .long) (kk : zq_V G F k n (pc + 3) L st (zn_hp (zm_wL m q j x)) Q) : zq_V G F k n pc L (.long x :: .ref q :: st) (zn_hp m) Q :=
  zq_put hf hd (zn_at hs) (by rw [List.length_mapIdx]; exact (List.getElem?_eq_some_iff.mp ht).1) (by rw [hy]; rfl) (by rw [hy]; rfl) (by rw [zn_setL hs ht]; exact kk)
theorem zn_ald {q n0 : Nat} {f : Nat → Int32} {i : Int32} (hd : decode F.2.1 pc = .ok (.iaload, 1)) (hs : zn_sh[q]? = some (.inl (0, n0, .inl f))) (hin : vp_in i n0) (kk : zq_V G F k n (pc + 1) L (.int (m.1 q i.toNatClampNeg) :: st) (zn_hp m) Q) : zq_V G F k n pc L (.int i :: .ref q :: st) (zn_hp m) Q := zq_iaload hd (zn_at hs) hin kk
theorem zn_ast {q n0 : Nat} {f : Nat → Int32} {i x : Int32} (hd : decode F.2.1 pc = .ok (.iastore, 1)) (hs : zn_sh[q]? = some (.inl (0, n0, .inl f))) (hin : vp_in i n0) (kk : zq_V G F k n (pc + 1) L st (zn_hp (zm_wI m q i.toNatClampNeg x)) Q) : zq_V G F k n pc L (.int x :: .int i :: .ref q :: st) (zn_hp m) Q := zq_iastore hd (zn_at hs) hin (by rw [zn_setA hs]; exact kk)
theorem zn_alen {q t n0 : Nat} {f : Nat → Int32} (hd : decode F.2.1 pc = .ok (.arraylength, 1)) (hs : zn_sh[q]? = some (.inl (t, n0, .inl f))) (kk : zq_V G F k n (pc + 1) L (.int (Int32.ofNat n0) :: st) (zn_hp m) Q) : zq_V G F k n pc L (.ref q :: st) (zn_hp m) Q := zq_alen hd (zn_at hs) kk
end ZNR
section ZNVAR
variable {G : zq_G} {F : zq_C} {k n pc : Nat} {L L' : List (Option Value)} {st : List Value} {h : zq_H} {m : zm} {Q : Option Value → zq_H → Prop}
theorem zx_putI {idx ci j q : Nat} {fs : List Value} {y x : Int32} (hf : zq_FL F.1 idx ci j false) (hd : decode F.2.1 pc = .ok (.putfield idx, 3)) (hs : zn_sh[q]? = some (.inr (ci, fs))) (ht : fs[j]? = some (.int y)) (hy : zq_ft ci j = .int) (kk : ∀ m1, m1 = zm_wI m q j x → zq_V G F k n (pc + 3) L st (zn_hp m1) Q) : zq_V G F k n pc L (.int x :: .ref q :: st) (zn_hp m) Q := zn_putI hf hd hs ht hy (kk _ rfl)
theorem zx_putZ {idx ci j q : Nat} {fs : List Value} {y x : Int32} (hf : zq_FL F.1 idx ci j false) (hd : decode F.2.1 pc = .ok (.putfield idx, 3)) (hs : zn_sh[q]? = some (.inr (ci, fs))) (ht : fs[j]? = some (.int y)) (hy : zq_ft ci j = .boolean) (hb : zm_isB x) (kk : ∀ m1, m1 = zm_wI m q j x → zq_V G F k n (pc + 3) L st (zn_hp m1) Q) : zq_V G F k n pc L (.int x :: .ref q :: st) (zn_hp m) Q := zn_putZ hf hd hs ht hy hb (kk _ rfl)
theorem zx_putL {idx ci j q : Nat} {fs : List Value} {y x : Int64} (hf : zq_FL F.1 idx ci j false) (hd : decode F.2.1 pc = .ok (.putfield idx, 3)) (hs : zn_sh[q]? = some (.inr (ci, fs))) (ht : fs[j]? = some (.long y)) (hy : zq_ft ci j = .long) (kk : ∀ m1, m1 = zm_wL m q j x → zq_V G F k n (pc + 3) L st (zn_hp m1) Q) : zq_V G F k n pc L (.long x :: .ref q :: st) (zn_hp m) Q := zn_putL hf hd hs ht hy (kk _ rfl)
theorem zx_ast {q n0 : Nat} {f : Nat → Int32} {i x : Int32} (hd : decode F.2.1 pc = .ok (.iastore, 1)) (hs : zn_sh[q]? = some (.inl (0, n0, .inl f))) (hin : vp_in i n0) (kk : ∀ m1, m1 = zm_wI m q i.toNatClampNeg x → zq_V G F k n (pc + 1) L st (zn_hp m1) Q) : zq_V G F k n pc L (.int x :: .int i :: .ref q :: st) (zn_hp m) Q := zn_ast hd hs hin (kk _ rfl)
end ZNVAR
def zn_QI (K : Int32 → zm → Prop) : Option Value → zq_H → Prop := fun v h => ∃ r m, v = some (.int r) ∧ h = zn_hp m ∧ K r m
def zn_QL (K : Int64 → zm → Prop) : Option Value → zq_H → Prop := fun v h => ∃ r m, v = some (.long r) ∧ h = zn_hp m ∧ K r m
def zn_QV (K : zm → Prop) : Option Value → zq_H → Prop := fun v h => ∃ m, v = none ∧ h = zn_hp m ∧ K m
section ZNCV
variable {G : zq_G} {F : zq_C} {k n pc : Nat} {L : List (Option Value)} {st st0 : List Value} {m : zm} {Q : Option Value → zq_H → Prop}
theorem zx_csI {idx na d : Nat} {M : zq_Md} {as : List Value} {K : Int32 → zm → Prop} (hd : decode F.2.1 pc = .ok (.invokestatic idx, 3)) (hC : zq_CC F.1 idx M na) (hw : Cond.static M.1 ∈ zq_ws) (hM : zq_Mt G M d 0 0 as (zn_hp m) (zn_QI K)) (hna : as.length = na) (hR : d + 1 ≤ F.2.2.2.2.2.frames ∧ (d + 1) * 100 ≤ F.2.2.2.2.2.locals) (hst : (st.map fun v => v.category).sum ≤ 8) (hc : k ≤ F.2.2.2.2.2.cells ∧ n ≤ F.2.2.2.2.2.slots) (he : as.reverse ++ st = st0) (kk : ∀ r m', K r m' → zq_V G F k n (pc + 3) L (.int r :: st) (zn_hp m') Q) : zq_V G F k n pc L st0 (zn_hp m) Q := by
  subst he
  exact zq_calls hd hC hw hM hna hR hst hc.1 hc.2 (fun v h' hq => by obtain ⟨r, m', hv, hh, hk⟩ := hq; rw [hv, hh]; exact kk r m' hk)
theorem zx_csL {idx na d : Nat} {M : zq_Md} {as : List Value} {K : Int64 → zm → Prop} (hd : decode F.2.1 pc = .ok (.invokestatic idx, 3)) (hC : zq_CC F.1 idx M na) (hw : Cond.static M.1 ∈ zq_ws) (hM : zq_Mt G M d 0 0 as (zn_hp m) (zn_QL K)) (hna : as.length = na) (hR : d + 1 ≤ F.2.2.2.2.2.frames ∧ (d + 1) * 100 ≤ F.2.2.2.2.2.locals) (hst : (st.map fun v => v.category).sum ≤ 8) (hc : k ≤ F.2.2.2.2.2.cells ∧ n ≤ F.2.2.2.2.2.slots) (he : as.reverse ++ st = st0) (kk : ∀ r m', K r m' → zq_V G F k n (pc + 3) L (.long r :: st) (zn_hp m') Q) : zq_V G F k n pc L st0 (zn_hp m) Q := by
  subst he
  exact zq_calls hd hC hw hM hna hR hst hc.1 hc.2 (fun v h' hq => by obtain ⟨r, m', hv, hh, hk⟩ := hq; rw [hv, hh]; exact kk r m' hk)
theorem zx_csV {idx na d : Nat} {M : zq_Md} {as : List Value} {K : zm → Prop} (hd : decode F.2.1 pc = .ok (.invokestatic idx, 3)) (hC : zq_CC F.1 idx M na) (hw : Cond.static M.1 ∈ zq_ws) (hM : zq_Mt G M d 0 0 as (zn_hp m) (zn_QV K)) (hna : as.length = na) (hR : d + 1 ≤ F.2.2.2.2.2.frames ∧ (d + 1) * 100 ≤ F.2.2.2.2.2.locals) (hst : (st.map fun v => v.category).sum ≤ 8) (hc : k ≤ F.2.2.2.2.2.cells ∧ n ≤ F.2.2.2.2.2.slots) (he : as.reverse ++ st = st0) (kk : ∀ m', K m' → zq_V G F k n (pc + 3) L st (zn_hp m') Q) : zq_V G F k n pc L st0 (zn_hp m) Q := by
  subst he
  exact zq_calls hd hC hw hM hna hR hst hc.1 hc.2 (fun v h' hq => by obtain ⟨m', hv, hh, hk⟩ := hq; rw [hv, hh]; exact kk m' hk)
theorem zx_cvI {idx na d q ci N : Nat} {T : u_T} {fs : List Value} {M : zq_Md} {as : List Value} {K : Int32 → zm → Prop} (hd : decode F.2.1 pc = .ok (.invokevirtual idx, 3)) (hC : zq_CC F.1 idx M na) (hw : Cond.instanceMethod M.1 ∈ zq_ws ∧ Cond.selects M.1.cls M.1 M.1 ∈ zq_ws ∧ zq_cl[ci]? = some (M.1.cls, T, N)) (hs : zn_sh[q]? = some (.inr (ci, fs))) (hM : zq_Mt G M d 0 0 (.ref q :: as) (zn_hp m) (zn_QI K)) (hna : as.length = na) (hR : d + 1 ≤ F.2.2.2.2.2.frames ∧ (d + 1) * 100 ≤ F.2.2.2.2.2.locals) (hst : (st.map fun v => v.category).sum ≤ 8) (hc : k ≤ F.2.2.2.2.2.cells ∧ n ≤ F.2.2.2.2.2.slots) (he : as.reverse ++ .ref q :: st = st0) (kk : ∀ r m', K r m' → zq_V G F k n (pc + 3) L (.int r :: st) (zn_hp m') Q) : zq_V G F k n pc L st0 (zn_hp m) Q := by
  subst he
  exact zq_callv hd hC hw (zn_at hs) hM hna hR hst hc.1 hc.2 (fun v h' hq => by obtain ⟨r, m', hv, hh, hk⟩ := hq; rw [hv, hh]; exact kk r m' hk)
theorem zx_cvL {idx na d q ci N : Nat} {T : u_T} {fs : List Value} {M : zq_Md} {as : List Value} {K : Int64 → zm → Prop} (hd : decode F.2.1 pc = .ok (.invokevirtual idx, 3)) (hC : zq_CC F.1 idx M na) (hw : Cond.instanceMethod M.1 ∈ zq_ws ∧ Cond.selects M.1.cls M.1 M.1 ∈ zq_ws ∧ zq_cl[ci]? = some (M.1.cls, T, N)) (hs : zn_sh[q]? = some (.inr (ci, fs))) (hM : zq_Mt G M d 0 0 (.ref q :: as) (zn_hp m) (zn_QL K)) (hna : as.length = na) (hR : d + 1 ≤ F.2.2.2.2.2.frames ∧ (d + 1) * 100 ≤ F.2.2.2.2.2.locals) (hst : (st.map fun v => v.category).sum ≤ 8) (hc : k ≤ F.2.2.2.2.2.cells ∧ n ≤ F.2.2.2.2.2.slots) (he : as.reverse ++ .ref q :: st = st0) (kk : ∀ r m', K r m' → zq_V G F k n (pc + 3) L (.long r :: st) (zn_hp m') Q) : zq_V G F k n pc L st0 (zn_hp m) Q := by
  subst he
  exact zq_callv hd hC hw (zn_at hs) hM hna hR hst hc.1 hc.2 (fun v h' hq => by obtain ⟨r, m', hv, hh, hk⟩ := hq; rw [hv, hh]; exact kk r m' hk)
theorem zx_cvV {idx na d q ci N : Nat} {T : u_T} {fs : List Value} {M : zq_Md} {as : List Value} {K : zm → Prop} (hd : decode F.2.1 pc = .ok (.invokevirtual idx, 3)) (hC : zq_CC F.1 idx M na) (hw : Cond.instanceMethod M.1 ∈ zq_ws ∧ Cond.selects M.1.cls M.1 M.1 ∈ zq_ws ∧ zq_cl[ci]? = some (M.1.cls, T, N)) (hs : zn_sh[q]? = some (.inr (ci, fs))) (hM : zq_Mt G M d 0 0 (.ref q :: as) (zn_hp m) (zn_QV K)) (hna : as.length = na) (hR : d + 1 ≤ F.2.2.2.2.2.frames ∧ (d + 1) * 100 ≤ F.2.2.2.2.2.locals) (hst : (st.map fun v => v.category).sum ≤ 8) (hc : k ≤ F.2.2.2.2.2.cells ∧ n ≤ F.2.2.2.2.2.slots) (he : as.reverse ++ .ref q :: st = st0) (kk : ∀ m', K m' → zq_V G F k n (pc + 3) L st (zn_hp m') Q) : zq_V G F k n pc L st0 (zn_hp m) Q := by
  subst he
  exact zq_callv hd hC hw (zn_at hs) hM hna hR hst hc.1 hc.2 (fun v h' hq => by obtain ⟨m', hv, hh, hk⟩ := hq; rw [hv, hh]; exact kk m' hk)
end ZNCV
theorem zt_Wall : zn_sh[11]? = some (.inr (1, zm_f_Wall)) := rfl
theorem zt_Table : zn_sh[0]? = some (.inr (0, zm_f_Table)) := rfl
