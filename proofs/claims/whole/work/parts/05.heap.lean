section ZHEAP
variable {G : zq_G} {F : zq_C} {k n pc : Nat} {L : List (Option Value)} {st : List Value} {h : zq_H} {Q : Option Value → zq_H → Prop}
theorem zq_okH_set {q : Nat} {e : zq_E} (ho : zq_okH h) (he : zq_okE h.length e) : zq_okH (h.set q e) := by
  intro i x hx
  rw [List.length_set]
  rw [List.getElem?_set] at hx
  split at hx
  · split at hx
    · cases hx; exact he
    · cases hx
  · exact ho i x hx
theorem zq_K1 {cls : Nat → ClassId} {s : State} {D : va_G} {q : Nat} {x : Nat × vp_A} {ty : FieldType} (hK : va_K D zq_cl [] s) (ha : zq_arr cls s h) (hq : h[q]? = some (.inl x)) (ht : zq_ty x.1 = ty) : va_K D zq_cl [(cls q, ty)] s := by
  refine ⟨hK.1, fun i y hy => ?_⟩
  have hz : i < 1 := (List.getElem?_eq_some_iff.mp hy).1
  rw [show i = 0 by omega] at hy
  cases hy
  rw [← ht]
  exact ha q x hq
theorem zq_arr_set {cls : Nat → ClassId} {s : State} {q : Nat} {e : zq_E} (ha : zq_arr cls s h) (he : ∀ y, e = .inl y → ∃ x, h[q]? = some (.inl x) ∧ x.1 = y.1) : zq_arr cls s (h.set q e) := by
  intro i x hx
  rw [List.getElem?_set] at hx
  split at hx
  · rename_i hqi
    subst hqi
    split at hx
    · cases hx
      obtain ⟨y, h1, h2⟩ := he x rfl
      rw [← h2]
      exact ha q y h1
    · cases hx
  · exact ha i x hx
theorem zq_narrow {ty : FieldType} {v : Value} (ad : Nat → Nat) (hn : narrow ty v = v) : narrow ty (zq_v ad v) = zq_v ad v := by
  cases v with
  | ref a => cases ty <;> first | rfl | (simp [narrow] at hn)
  | _ => exact hn
theorem zq_fits {ty : FieldType} {v : Value} (ad : Nat → Nat) (hn : fits ty v = true) : fits ty (zq_v ad v) = true := by
  cases v with
  | ref a => cases ty <;> first | rfl | (simp [fits] at hn)
  | _ => exact hn
/-- a field's link: own class, place in its pool, class number, slot -/
def zq_FL (own : String) (idx ci j : Nat) (fin : Bool) : Prop := ∃ (C : String) (T : u_T) (N : Nat), zq_cl[ci]? = some (C, T, N) ∧ j < N ∧ (T j).2.2.2 = fin ∧ (fin = true → (T j).1 = own) ∧ (Cond.fieldLink own idx (T j).1 (T j).2.1 (T j).2.2.1 ∈ zq_ws ∨ ∃ host, Cond.fieldLinkNest own idx (T j).1 (T j).2.1 (T j).2.2.1 host ∈ zq_nest)
def zq_FG (own : String) (idx ci j : Nat) : Prop := ∃ (C : String) (T : u_T) (N : Nat), zq_cl[ci]? = some (C, T, N) ∧ j < N ∧ (Cond.fieldLink own idx (T j).1 (T j).2.1 (T j).2.2.1 ∈ zq_ws ∨ ∃ host, Cond.fieldLinkNest own idx (T j).1 (T j).2.1 (T j).2.2.1 host ∈ zq_nest)
theorem zq_FL.g {own : String} {idx ci j : Nat} {fin : Bool} (hf : zq_FL own idx ci j fin) : zq_FG own idx ci j := by
  obtain ⟨C, T, N, h1, h2, -, -, h3⟩ := hf
  exact ⟨C, T, N, h1, h2, h3⟩
theorem zq_get {idx ci j q : Nat} {fs : List Value} {v : Value} (hf : zq_FG F.1 idx ci j) (hd : decode F.2.1 pc = .ok (.getfield idx, 3)) (hq : h[q]? = some (.inr (ci, fs))) (hv : fs[j]? = some v) (kk : zq_V G F k n (pc + 3) L (v :: st) h Q) : zq_V G F k n pc L (.ref q :: st) h Q :=
  fun p e s m args below meth c H locs ls ad cls QW fx fr hp hl hs hL kr => by
    obtain ⟨C, T, N, hc, hj, hw⟩ := hf
    have hvv : (fs.map (zq_v ad))[j]? = some (zq_v ad v) := by rw [List.getElem?_map, hv]; rfl
    have kk' := kk p e s m args below meth c H locs ls ad cls QW fx fr hp hl (zq_cc (hp.2.2.2.1 q _ hq v (List.mem_of_getElem? hv)) (zq_tt hs)) hL kr
    rcases hw with hw | ⟨host, hw⟩
    · exact va_get (D := G.2.1) (C := C) (T := T) (N := N) fx.1 fx.2.1 fx.2.2.2.2.1 (zq_cl_ok hc).1 fx.2.2.2.1 fr.1 hp.1 q (zq_w_get hq) hc j hj (fx.2.2.2.2.1 _ hw) (fun _ h9 => h9) hvv hd kk'
    · exact va_getN (D := G.2.1) (C := C) (T := T) (N := N) fx.1 fx.2.1 fx.2.2.2.2.1 (zq_cl_ok hc).1 fx.2.2.2.1 fr.1 hp.1 q (zq_w_get hq) hc j hj (va_Nw.use rfl (fr.2.1 _ hw)) (fun _ h9 => h9) hvv hd kk'
theorem zq_put {idx ci j q : Nat} {fs : List Value} {v : Value} (hf : zq_FL F.1 idx ci j false) (hd : decode F.2.1 pc = .ok (.putfield idx, 3)) (hq : h[q]? = some (.inr (ci, fs))) (hl1 : j < fs.length) (hn : narrow (zq_ft ci j) v = v) (hfit : fits (zq_ft ci j) v = true) (kk : zq_V G F k n (pc + 3) L st (h.set q (.inr (ci, fs.set j v))) Q) : zq_V G F k n pc L (v :: .ref q :: st) h Q :=
  fun p e s m args below meth c H locs ls ad cls QW fx fr hp hl hs hL kr => by
    obtain ⟨C, T, N, hc, hj, hfin, -, hw⟩ := hf
    obtain ⟨c1, c2, c3⟩ := zq_cl_ok hc
    have fin : ∀ (H1 : Heap) (locs1 : List Loc), va_P G.2.1 zq_cl ((zq_w ad cls h).set q (ad q, .inr (ci, (fs.map (zq_v ad)).set j (zq_v ad v)))) H1 → va_D (zq_A G) ((zq_w ad cls h).set q (ad q, .inr (ci, (fs.map (zq_v ad)).set j (zq_v ad v)))) → va_S (zq_A G) s.heap H1 locs1 → W p G.1 e F.2.2.2.2.2 s m args below meth c H1 locs1 k n QW (F0 m (pc + 3) ls (st.map (zq_v ad))) := by
      intro H1 locs1 g1 g2 g3
      have hw9 : zq_w ad cls (h.set q (.inr (ci, fs.set j v))) = (zq_w ad cls h).set q (ad q, .inr (ci, (fs.map (zq_v ad)).set j (zq_v ad v))) := by
        rw [zq_w_set]; simp only [zq_e, List.map_set]
      refine kk p e s m args below meth c H1 locs1 ls ad cls QW fx fr ⟨by rw [hw9]; exact g1, by rw [hw9]; exact g2, g3, zq_okH_set hp.2.2.2.1 ?_, by rw [List.length_set]; exact hp.2.2.2.2.1, zq_arr_set hp.2.2.2.2.2 (fun y hy => by cases hy)⟩ hl (by rw [List.length_set]; exact zq_tt (zq_tt hs)) (by rw [List.length_set]; exact hL) (by rw [List.length_set]; exact kr)
      intro w hw1
      rcases List.mem_or_eq_of_mem_set hw1 with h5 | h5
      · exact hp.2.2.2.1 q _ hq w h5
      · rw [h5]; exact zq_hh hs
    rcases hw with hw | ⟨host, hw⟩
    · exact va_put (D := G.2.1) (C := C) (T := T) (N := N) (ty := zq_ft ci j) fx.1 fx.2.1 fx.2.2.2.2.1 c1 (zq_ft ci) c2 c3 fx.2.2.2.1 fr.1 hp.1 hp.2.1 hp.2.2.1 q (zq_w_get hq) hc j hj (fx.2.2.2.2.1 _ hw) (fun _ h9 => h9) hfin (c2 j hj) (zq_narrow ad hn) (zq_fits ad hfit) (by rw [List.length_map]; exact hl1) hd fin
    · exact va_putN (D := G.2.1) (C := C) (T := T) (N := N) (ty := zq_ft ci j) fx.1 fx.2.1 fx.2.2.2.2.1 c1 (zq_ft ci) c2 c3 fx.2.2.2.1 fr.1 hp.1 hp.2.1 hp.2.2.1 q (zq_w_get hq) hc j hj (va_Nw.use rfl (fr.2.1 _ hw)) (fun _ h9 => h9) hfin (c2 j hj) (zq_narrow ad hn) (zq_fits ad hfit) (by rw [List.length_map]; exact hl1) hd fin
theorem zq_putF {idx ci j q : Nat} {fs : List Value} {v : Value} (hf : zq_FL F.1 idx ci j true) (hi : F.2.2.2.2.1 = true) (hlk : ∃ (C : String) (T : u_T) (N : Nat), zq_cl[ci]? = some (C, T, N) ∧ Cond.fieldLink F.1 idx (T j).1 (T j).2.1 (T j).2.2.1 ∈ zq_ws) (hd : decode F.2.1 pc = .ok (.putfield idx, 3)) (hq : h[q]? = some (.inr (ci, fs))) (hl1 : j < fs.length) (hn : narrow (zq_ft ci j) v = v) (hfit : fits (zq_ft ci j) v = true) (kk : zq_V G F k n (pc + 3) L st (h.set q (.inr (ci, fs.set j v))) Q) : zq_V G F k n pc L (v :: .ref q :: st) h Q :=
  fun p e s m args below meth c H locs ls ad cls QW fx fr hp hl hs hL kr => by
    obtain ⟨C, T, N, hc, hj, hfin, hown, -⟩ := hf
    obtain ⟨C', T', N', hc', hw⟩ := hlk
    cases hc.symm.trans hc'
    obtain ⟨c1, c2, c3⟩ := zq_cl_ok hc
    refine va_putF (D := G.2.1) (C := C) (T := T) (N := N) (ty := zq_ft ci j) fx.1 fx.2.1 fx.2.2.2.2.1 c1 (zq_ft ci) c2 c3 fx.2.2.2.1 fr.1 hp.1 hp.2.1 hp.2.2.1 q (zq_w_get hq) hc j hj (fx.2.2.2.2.1 _ hw) (fun _ h9 => h9) hfin (fx.2.2.2.2.2.2.2 hi) (hown rfl) (c2 j hj) (zq_narrow ad hn) (zq_fits ad hfit) (by rw [List.length_map]; exact hl1) hd ?_
    intro H1 locs1 g1 g2 g3
    have hw9 : zq_w ad cls (h.set q (.inr (ci, fs.set j v))) = (zq_w ad cls h).set q (ad q, .inr (ci, (fs.map (zq_v ad)).set j (zq_v ad v))) := by
      rw [zq_w_set]; simp only [zq_e, List.map_set]
    refine kk p e s m args below meth c H1 locs1 ls ad cls QW fx fr ⟨by rw [hw9]; exact g1, by rw [hw9]; exact g2, g3, zq_okH_set hp.2.2.2.1 ?_, by rw [List.length_set]; exact hp.2.2.2.2.1, zq_arr_set hp.2.2.2.2.2 (fun y hy => by cases hy)⟩ hl (by rw [List.length_set]; exact zq_tt (zq_tt hs)) (by rw [List.length_set]; exact hL) (by rw [List.length_set]; exact kr)
    intro w hw1
    rcases List.mem_or_eq_of_mem_set hw1 with h5 | h5
    · exact hp.2.2.2.1 q _ hq w h5
    · rw [h5]; exact zq_hh hs
-- arrays
theorem zq_iaload {q m0 : Nat} {f : Nat → Int32} {i : Int32} (hd : decode F.2.1 pc = .ok (.iaload, 1)) (hq : h[q]? = some (.inl (0, m0, .inl f))) (hin : vp_in i m0) (kk : zq_V G F k n (pc + 1) L (.int (f i.toNatClampNeg) :: st) h Q) : zq_V G F k n pc L (.int i :: .ref q :: st) h Q :=
  fun p e s m args below meth c H locs ls ad cls QW fx fr hp hl hs hL kr =>
    va_iald fx.1 fx.2.1 (zq_K1 fr.1 hp.2.2.2.2.2 hq rfl) hp.1 q 0 (zq_w_get hq) rfl hin hd (kk p e s m args below meth c H locs ls ad cls QW fx fr hp hl (zq_cc trivial (zq_tt (zq_tt hs))) hL kr)
theorem zq_zaload {q m0 : Nat} {f : Nat → Int32} {i : Int32} (hd : decode F.2.1 pc = .ok (.baload, 1)) (hq : h[q]? = some (.inl (2, m0, .inl f))) (hin : vp_in i m0) (kk : zq_V G F k n (pc + 1) L (.int (f i.toNatClampNeg) :: st) h Q) : zq_V G F k n pc L (.int i :: .ref q :: st) h Q :=
  fun p e s m args below meth c H locs ls ad cls QW fx fr hp hl hs hL kr =>
    va_zald fx.1 fx.2.1 (zq_K1 fr.1 hp.2.2.2.2.2 hq rfl) hp.1 q 0 (zq_w_get hq) rfl hin hd (kk p e s m args below meth c H locs ls ad cls QW fx fr hp hl (zq_cc trivial (zq_tt (zq_tt hs))) hL kr)
theorem zq_laload {q m0 : Nat} {f : Nat → Int64} {i : Int32} (hd : decode F.2.1 pc = .ok (.laload, 1)) (hq : h[q]? = some (.inl (1, m0, .inr (.inl f)))) (hin : vp_in i m0) (kk : zq_V G F k n (pc + 1) L (.long (f i.toNatClampNeg) :: st) h Q) : zq_V G F k n pc L (.int i :: .ref q :: st) h Q :=
  fun p e s m args below meth c H locs ls ad cls QW fx fr hp hl hs hL kr =>
    va_lald fx.1 fx.2.1 (zq_K1 fr.1 hp.2.2.2.2.2 hq rfl) hp.1 q 0 (zq_w_get hq) rfl hin hd (kk p e s m args below meth c H locs ls ad cls QW fx fr hp hl (zq_cc trivial (zq_tt (zq_tt hs))) hL kr)
theorem zq_aaload {q m0 y : Nat} {f : Nat → Option Nat} {i : Int32} (hd : decode F.2.1 pc = .ok (.aaload, 1)) (hq : h[q]? = some (.inl (3, m0, .inr (.inr (.inr (.inr f)))))) (hin : vp_in i m0) (hy : f i.toNatClampNeg = some y) (kk : zq_V G F k n (pc + 1) L (.ref y :: st) h Q) : zq_V G F k n pc L (.int i :: .ref q :: st) h Q :=
  fun p e s m args below meth c H locs ls ad cls QW fx fr hp hl hs hL kr => by
    have kk' := kk p e s m args below meth c H locs ls ad cls QW fx fr hp hl (zq_cc (hp.2.2.2.1 q _ hq _ _ hy) (zq_tt (zq_tt hs))) hL kr
    refine va_aldq (C := "RiichiTable$Player") fx.1 fx.2.1 (zq_K1 fr.1 hp.2.2.2.2.2 hq rfl) hp.1 q 0 (zq_w_get hq) rfl hin hd ?_
    simp only [hy, Option.map_some, va_rf]
    exact kk'
/-- an old array: the script, a static table -/
theorem zq_sload {i : Nat} {x : Nat × (Nat → Int32)} {j : Int32} (hd : decode F.2.1 pc = .ok (.iaload, 1)) (hx : G.2.2.2[i]? = some x) (hin : vp_in j x.1) (kk : zq_V G F k n (pc + 1) L (.int (x.2 j.toNatClampNeg) :: st) h Q) : zq_V G F k n pc L (.int j :: .ref (zq_B + i) :: st) h Q :=
  fun p e s m args below meth c H locs ls ad cls QW fx fr hp hl hs hL kr =>
    va_ti fx.1 fx.2.1 (fr.2.2.2.1 i x hx) hp.2.2.1 hin rfl hd (kk p e s m args below meth c H locs ls ad cls QW fx fr hp hl (zq_cc trivial (zq_tt (zq_tt hs))) hL kr)
theorem zq_slen {i : Nat} {x : Nat × (Nat → Int32)} (hd : decode F.2.1 pc = .ok (.arraylength, 1)) (hx : G.2.2.2[i]? = some x) (kk : zq_V G F k n (pc + 1) L (.int (Int32.ofNat x.1) :: st) h Q) : zq_V G F k n pc L (.ref (zq_B + i) :: st) h Q :=
  fun p e s m args below meth c H locs ls ad cls QW fx fr hp hl hs hL kr =>
    va_tlen fx.1 fx.2.1 (fr.2.2.2.1 i x hx) hp.2.2.1 rfl hd (kk p e s m args below meth c H locs ls ad cls QW fx fr hp hl (zq_cc trivial (zq_tt hs)) hL kr)
theorem zq_alen {q : Nat} {x : Nat × vp_A} (hd : decode F.2.1 pc = .ok (.arraylength, 1)) (hq : h[q]? = some (.inl x)) (kk : zq_V G F k n (pc + 1) L (.int (Int32.ofNat x.2.1) :: st) h Q) : zq_V G F k n pc L (.ref q :: st) h Q :=
  fun p e s m args below meth c H locs ls ad cls QW fx fr hp hl hs hL kr =>
    va_alen fx.1 fx.2.1 (zq_K1 fr.1 hp.2.2.2.2.2 hq rfl) hp.1 q 0 (zq_w_get hq) rfl rfl hd (kk p e s m args below meth c H locs ls ad cls QW fx fr hp hl (zq_cc trivial (zq_tt hs)) hL kr)
theorem zq_getstatic {idx i : Nat} {x : String × String × String × Nat} (hd : decode F.2.1 pc = .ok (.getstatic idx, 3)) (hx : zq_stat[i]? = some x) (hw : Cond.fieldLink F.1 idx x.1 x.2.1 x.2.2.1 ∈ zq_ws) (kk : zq_V G F k n (pc + 3) L (.ref (zq_B + x.2.2.2) :: st) h Q) : zq_V G F k n pc L st h Q :=
  fun p e s m args below meth c H locs ls ad cls QW fx fr hp hl hs hL kr =>
    va_gets fx.1 fx.2.1 (fr.2.2.2.2.1 i x hx) hp.2.2.1 fx.2.2.2.1 (fx.2.2.2.2.1 _ hw) (fun _ h9 => h9) hd (kk p e s m args below meth c H locs ls ad cls QW fx fr hp hl (zq_cc (Or.inr (Nat.le_add_right _ _)) hs) hL kr)
theorem zq_iastore {q m0 : Nat} {f : Nat → Int32} {i x : Int32} (hd : decode F.2.1 pc = .ok (.iastore, 1)) (hq : h[q]? = some (.inl (0, m0, .inl f))) (hin : vp_in i m0) (kk : zq_V G F k n (pc + 1) L st (h.set q (.inl (0, m0, .inl (upd f i.toNatClampNeg x)))) Q) : zq_V G F k n pc L (.int x :: .int i :: .ref q :: st) h Q :=
  fun p e s m args below meth c H locs ls ad cls QW fx fr hp hl hs hL kr => by
    refine va_iast fx.1 fx.2.1 (zq_K1 fr.1 hp.2.2.2.2.2 hq rfl) hp.1 hp.2.1 hp.2.2.1 q 0 (zq_w_get hq) rfl hin hd ?_
    intro H1 locs1 g1 g2 g3
    have hw9 : zq_w ad cls (h.set q (.inl (0, m0, .inl (upd f i.toNatClampNeg x)))) = (zq_w ad cls h).set q (ad q, .inl (cls q, m0, .inl (upd f i.toNatClampNeg x))) := by rw [zq_w_set]; rfl
    exact kk p e s m args below meth c H1 locs1 ls ad cls QW fx fr ⟨by rw [hw9]; exact g1, by rw [hw9]; exact g2, g3, zq_okH_set hp.2.2.2.1 trivial, by rw [List.length_set]; exact hp.2.2.2.2.1, zq_arr_set hp.2.2.2.2.2 (fun y hy => by cases hy; exact ⟨_, hq, rfl⟩)⟩ hl (by rw [List.length_set]; exact zq_tt (zq_tt (zq_tt hs))) (by rw [List.length_set]; exact hL) (by rw [List.length_set]; exact kr)
theorem zq_zastore {q m0 : Nat} {f : Nat → Int32} {i x : Int32} (hd : decode F.2.1 pc = .ok (.bastore, 1)) (hq : h[q]? = some (.inl (2, m0, .inl f))) (hin : vp_in i m0) (hx : vp_nar .boolean x = x) (kk : zq_V G F k n (pc + 1) L st (h.set q (.inl (2, m0, .inl (upd f i.toNatClampNeg x)))) Q) : zq_V G F k n pc L (.int x :: .int i :: .ref q :: st) h Q :=
  fun p e s m args below meth c H locs ls ad cls QW fx fr hp hl hs hL kr => by
    refine va_zast fx.1 fx.2.1 (zq_K1 fr.1 hp.2.2.2.2.2 hq rfl) hp.1 hp.2.1 hp.2.2.1 q 0 (zq_w_get hq) rfl hin hd ?_
    intro H1 locs1 g1 g2 g3
    rw [hx] at g1 g2
    have hw9 : zq_w ad cls (h.set q (.inl (2, m0, .inl (upd f i.toNatClampNeg x)))) = (zq_w ad cls h).set q (ad q, .inl (cls q, m0, .inl (upd f i.toNatClampNeg x))) := by rw [zq_w_set]; rfl
    exact kk p e s m args below meth c H1 locs1 ls ad cls QW fx fr ⟨by rw [hw9]; exact g1, by rw [hw9]; exact g2, g3, zq_okH_set hp.2.2.2.1 trivial, by rw [List.length_set]; exact hp.2.2.2.2.1, zq_arr_set hp.2.2.2.2.2 (fun y hy => by cases hy; exact ⟨_, hq, rfl⟩)⟩ hl (by rw [List.length_set]; exact zq_tt (zq_tt (zq_tt hs))) (by rw [List.length_set]; exact hL) (by rw [List.length_set]; exact kr)
theorem zq_lastore {q m0 : Nat} {f : Nat → Int64} {i : Int32} {x : Int64} (hd : decode F.2.1 pc = .ok (.lastore, 1)) (hq : h[q]? = some (.inl (1, m0, .inr (.inl f)))) (hin : vp_in i m0) (kk : zq_V G F k n (pc + 1) L st (h.set q (.inl (1, m0, .inr (.inl (vp_updL f i.toNatClampNeg x))))) Q) : zq_V G F k n pc L (.long x :: .int i :: .ref q :: st) h Q :=
  fun p e s m args below meth c H locs ls ad cls QW fx fr hp hl hs hL kr => by
    refine va_last fx.1 fx.2.1 (zq_K1 fr.1 hp.2.2.2.2.2 hq rfl) hp.1 hp.2.1 hp.2.2.1 q 0 (zq_w_get hq) rfl hin hd ?_
    intro H1 locs1 g1 g2 g3
    have hw9 : zq_w ad cls (h.set q (.inl (1, m0, .inr (.inl (vp_updL f i.toNatClampNeg x))))) = (zq_w ad cls h).set q (ad q, .inl (cls q, m0, .inr (.inl (vp_updL f i.toNatClampNeg x)))) := by rw [zq_w_set]; rfl
    exact kk p e s m args below meth c H1 locs1 ls ad cls QW fx fr ⟨by rw [hw9]; exact g1, by rw [hw9]; exact g2, g3, zq_okH_set hp.2.2.2.1 trivial, by rw [List.length_set]; exact hp.2.2.2.2.1, zq_arr_set hp.2.2.2.2.2 (fun y hy => by cases hy; exact ⟨_, hq, rfl⟩)⟩ hl (by rw [List.length_set]; exact zq_tt (zq_tt (zq_tt hs))) (by rw [List.length_set]; exact hL) (by rw [List.length_set]; exact kr)
theorem zq_aastore {q m0 y : Nat} {fs : List Value} {f : Nat → Option Nat} {i : Int32} (hd : decode F.2.1 pc = .ok (.aastore, 1)) (hq : h[q]? = some (.inl (3, m0, .inr (.inr (.inr (.inr f)))))) (hin : vp_in i m0) (hy : h[y]? = some (.inr (2, fs))) (kk : zq_V G F k n (pc + 1) L st (h.set q (.inl (3, m0, .inr (.inr (.inr (.inr (va_up f i.toNatClampNeg (some y)))))))) Q) : zq_V G F k n pc L (.ref y :: .int i :: .ref q :: st) h Q :=
  fun p e s m args below meth c H locs ls ad cls QW fx fr hp hl hs hL kr => by
    refine va_astq (r := ("RiichiTable$Player", zq_T_Player, 14)) fx.1 fx.2.1 (zq_K1 fr.1 hp.2.2.2.2.2 hq rfl) hp.1 hp.2.1 hp.2.2.1 q 0 y 2 (zq_w_get hq) rfl (zq_w_get hy) rfl hin hd ?_
    intro H1 locs1 g1 g2 g3
    have hf9 : (fun j => (va_up f i.toNatClampNeg (some y) j).map ad) = va_up (fun j => (f j).map ad) i.toNatClampNeg (some (ad y)) := by
      funext j
      by_cases hj : j = i.toNatClampNeg
      · subst hj; simp [va_up]
      · simp [va_up, hj]
    have hw9 : zq_w ad cls (h.set q (.inl (3, m0, .inr (.inr (.inr (.inr (va_up f i.toNatClampNeg (some y)))))))) = (zq_w ad cls h).set q (ad q, .inl (cls q, m0, .inr (.inr (.inr (.inr (va_up (fun j => (f j).map ad) i.toNatClampNeg (some (ad y)))))))) := by
      rw [zq_w_set, ← hf9]; rfl
    refine kk p e s m args below meth c H1 locs1 ls ad cls QW fx fr ⟨by rw [hw9]; exact g1, by rw [hw9]; exact g2, g3, zq_okH_set hp.2.2.2.1 ?_, by rw [List.length_set]; exact hp.2.2.2.2.1, zq_arr_set hp.2.2.2.2.2 (fun y hy => by cases hy; exact ⟨_, hq, rfl⟩)⟩ hl (by rw [List.length_set]; exact zq_tt (zq_tt (zq_tt hs))) (by rw [List.length_set]; exact hL) (by rw [List.length_set]; exact kr)
    intro j z hz
    by_cases hj : j = i.toNatClampNeg
    · subst hj
      simp only [va_up, if_pos] at hz
      cases hz
      exact zq_hh hs
    · simp only [va_up, if_neg hj] at hz
      exact hp.2.2.2.1 q _ hq _ _ hz
end ZHEAP
