section ZNEW
variable {G : zq_G} {F : zq_C} {k n pc : Nat} {L : List (Option Value)} {st : List Value} {h : zq_H} {Q : Option Value → zq_H → Prop}
theorem zq_lv_ag {m : Nat} {ad ad' : Nat → Nat} (hg : zq_ag m ad ad') {L : List (Option Value)} {ls : Array Slot} {nL : Nat} (hL : ∀ v, some v ∈ L → zq_ok m v) (hl : lv_has ls nL (zq_lv ad L)) : lv_has ls nL (zq_lv ad' L) := by
  refine ⟨hl.1, hl.2.1, fun q hq => hl.2.2 q ?_⟩
  obtain ⟨v, h1, h2⟩ := zq_lv_mem.mp hq
  exact zq_lv_mem.mpr ⟨v, h1, by rw [h2, zq_v_ag hg (hL v (List.mem_of_getElem? h1))]⟩
theorem zq_Fr_ag {m : Nat} {ad ad' : Nat → Nat} {s : State} (hg : zq_ag m ad ad') (fr : zq_Fr G ad s) : zq_Fr G ad' s :=
  ⟨fr.1, fr.2.1, fr.2.2.1, fun i x hx => by rw [hg _ (Or.inr (Nat.le_add_right _ _))]; exact fr.2.2.2.1 i x hx, fun i x hx => by rw [hg _ (Or.inr (Nat.le_add_right _ _))]; exact fr.2.2.2.2.1 i x hx, fr.2.2.2.2.2⟩
/-- a cell has come -/
theorem zq_grow {p : Program} {e : Env} {s : State} {m : MethodId} {args : Array Value} {below : List Frame} {meth : Method} {c : Code} {H H1 : Heap} {locs : List Loc} {ls : Array Slot} {ad : Nat → Nat} {cls : Nat → ClassId} {QW : State → Prop} {q k1 n1 pc1 : Nat} {cA : ClassId} {e0 : zq_E} {x : va_E}
    (fx : zq_Fx p s m args meth c F.1 F.2.1 F.2.2.1 F.2.2.2.1 F.2.2.2.2.1) (fr : zq_Fr G ad s) (hp : zq_Hp G ad cls s H locs h) (hl : lv_has ls F.2.2.1 (zq_lv ad L)) (hs : ∀ v ∈ st, zq_ok h.length v) (hL : ∀ v, some v ∈ L → zq_ok h.length v)
    (kr : ∀ (v : Option Value) (h' : zq_H) (ad' : Nat → Nat) (cls' : Nat → ClassId) (H' : Heap) (locs' : List Loc) (k' n' : Nat) (ls' : Array Slot) (pc' : Nat), Q v h' → zq_Hp G ad' cls' s H' locs' h' → zq_ag h.length ad ad' → h.length ≤ h'.length → zq_okO h'.length v → k' ≤ F.2.2.2.2.2.cells → n' ≤ F.2.2.2.2.2.slots → zq_Ret F.2.2.2.1 F.2.1 pc' v →
      W p G.1 e F.2.2.2.2.2 s m args below meth c H' locs' k' n' QW (F0 m pc' ls' ((v.map (zq_v ad')).toList)))
    (hlen : h.length + 1 < zq_B) (hx : zq_e (va_up ad h.length q) (va_up cls h.length cA) h.length e0 = x) (he0 : zq_okE (h.length + 1) e0) (hP1 : va_P G.2.1 zq_cl (zq_w ad cls h ++ [(q, x)]) H1) (hD1 : va_D (zq_A G) (zq_w ad cls h ++ [(q, x)])) (hS1 : va_S (zq_A G) s.heap H1 locs) (harr : ∀ y, e0 = .inl y → ArrOfT s cA (zq_ty y.1) ∧ va_RA s cA (zq_ty y.1))
    (kk : zq_V G F k1 n1 pc1 L (.ref h.length :: st) (h ++ [e0]) Q) : W p G.1 e F.2.2.2.2.2 s m args below meth c H1 locs k1 n1 QW (F0 m pc1 ls (.ref q :: st.map (zq_v ad))) := by
  have hag : zq_ag h.length ad (va_up ad h.length q) := fun b hb => va_up_ne _ _ (by rcases hb with hb | hb <;> omega)
  have hle : h.length ≤ (h ++ [e0]).length := by simp
  have hl1 : (h ++ [e0]).length = h.length + 1 := by simp
  have hw := zq_w_push (a := q) (c := cA) (e := e0) hp.2.2.2.1 hp.2.2.2.2.1 x hx
  have key := kk p e s m args below meth c H1 locs ls (va_up ad h.length q) (va_up cls h.length cA) QW fx (zq_Fr_ag hag fr) ⟨by rw [hw]; exact hP1, by rw [hw]; exact hD1, hS1, ?_, by rw [hl1]; exact hlen, ?_⟩ (zq_lv_ag hag hL hl) (zq_cc (Or.inl (by rw [hl1]; exact Nat.lt_succ_self _)) (fun v hv => (hs v hv).mono hle)) (fun v hv => (hL v hv).mono hle) ?_
  · have e1 : (Value.ref h.length :: st).map (zq_v (va_up ad h.length q)) = .ref q :: st.map (zq_v ad) := by
      simp only [List.map_cons, zq_v, va_up_self]
      rw [zq_vs_ag hag hs]
    rw [e1] at key
    exact key
  · intro i y hy
    rw [hl1]
    by_cases hi : i < h.length
    · rw [List.getElem?_append_left hi] at hy
      exact (hp.2.2.2.1 i y hy).mono (Nat.le_succ _)
    · rw [List.getElem?_append_right (by omega)] at hy
      have hz : i - h.length < 1 := (List.getElem?_eq_some_iff.mp hy).1
      rw [show i - h.length = 0 by omega] at hy
      cases hy
      exact he0
  · intro i y hy
    by_cases hi : i < h.length
    · rw [List.getElem?_append_left hi] at hy
      rw [va_up_ne _ _ (by omega)]
      exact hp.2.2.2.2.2 i y hy
    · rw [List.getElem?_append_right (by omega)] at hy
      have hz : i - h.length < 1 := (List.getElem?_eq_some_iff.mp hy).1
      rw [show i = h.length by omega, Nat.sub_self] at hy
      cases hy
      rw [show i = h.length by omega, va_up_self]
      exact harr y rfl
  · intro v h' ad' cls' H' locs' k' n' ls' pc' q1 q2 q3 q4 q5 q6 q7 q8
    exact kr v h' ad' cls' H' locs' k' n' ls' pc' q1 q2 (hag.trans hle q3) (Nat.le_trans hle q4) q5 q6 q7 q8
theorem zq_hA {G : zq_G} {ad : Nat → Nat} {s : State} (fr : zq_Fr G ad s) : ∀ q, s.heap.size ≤ q → zq_A G q := fun _ hq => Nat.le_trans fr.2.2.1 hq
theorem zq_newi {x : Int32} {N : Nat} (hd : decode F.2.1 pc = .ok (.newarray .int, 2)) (hw : Cond.arrayClass .int ∈ zq_ws) (hx : ¬ x < 0) (hN : x.toNatClampNeg = N) (hb : N * 4 ≤ 536870912) (hlen : h.length + 1 < zq_B) (hc : k + 1 ≤ F.2.2.2.2.2.cells) (hs1 : n + N ≤ F.2.2.2.2.2.slots) (kk : zq_V G F (k + 1) (n + N) (pc + 2) L (.ref h.length :: st) (h ++ [.inl (0, N, .inl (fun _ => 0))]) Q) : zq_V G F k n pc L (.int x :: st) h Q :=
  fun p e s m args below meth c H locs ls ad cls QW fx fr hp hl hs hL kr =>
    va_newa (atype := .int) (a0 := (N, .inl (fun _ => 0))) (ty := .int) fx.1 fx.2.1 (fx.2.2.2.2.1 _ hw) rfl fr.1 hp.1 hp.2.1 hp.2.2.1 (zq_hA fr) (fun _ => rfl) hx hN hb hc hs1 hd (fun q cA H1 g0 g1 g2 g3 => zq_grow (e0 := .inl (0, N, .inl (fun _ => 0))) (cA := cA) fx fr hp hl (zq_tt hs) hL kr hlen (by simp [zq_e, zq_a, va_up_self]) trivial g1 g2 g3 (fun y hy => by cases hy; exact g0.2 0 (cA, .int) rfl) kk)
theorem zq_newl {x : Int32} {N : Nat} (hd : decode F.2.1 pc = .ok (.newarray .long, 2)) (hw : Cond.arrayClass .long ∈ zq_ws) (hx : ¬ x < 0) (hN : x.toNatClampNeg = N) (hb : N * 8 ≤ 536870912) (hlen : h.length + 1 < zq_B) (hc : k + 1 ≤ F.2.2.2.2.2.cells) (hs1 : n + N ≤ F.2.2.2.2.2.slots) (kk : zq_V G F (k + 1) (n + N) (pc + 2) L (.ref h.length :: st) (h ++ [.inl (1, N, .inr (.inl (fun _ => 0)))]) Q) : zq_V G F k n pc L (.int x :: st) h Q :=
  fun p e s m args below meth c H locs ls ad cls QW fx fr hp hl hs hL kr =>
    va_newa (atype := .long) (a0 := (N, .inr (.inl (fun _ => 0)))) (ty := .long) fx.1 fx.2.1 (fx.2.2.2.2.1 _ hw) rfl fr.1 hp.1 hp.2.1 hp.2.2.1 (zq_hA fr) (fun _ => rfl) hx hN hb hc hs1 hd (fun q cA H1 g0 g1 g2 g3 => zq_grow (e0 := .inl (1, N, .inr (.inl (fun _ => 0)))) (cA := cA) fx fr hp hl (zq_tt hs) hL kr hlen (by simp [zq_e, zq_a, va_up_self]) trivial g1 g2 g3 (fun y hy => by cases hy; exact g0.2 0 (cA, .long) rfl) kk)
theorem zq_newz {x : Int32} {N : Nat} (hd : decode F.2.1 pc = .ok (.newarray .boolean, 2)) (hw : Cond.arrayClass .boolean ∈ zq_ws) (hx : ¬ x < 0) (hN : x.toNatClampNeg = N) (hb : N * 1 ≤ 536870912) (hlen : h.length + 1 < zq_B) (hc : k + 1 ≤ F.2.2.2.2.2.cells) (hs1 : n + N ≤ F.2.2.2.2.2.slots) (kk : zq_V G F (k + 1) (n + N) (pc + 2) L (.ref h.length :: st) (h ++ [.inl (2, N, .inl (fun _ => 0))]) Q) : zq_V G F k n pc L (.int x :: st) h Q :=
  fun p e s m args below meth c H locs ls ad cls QW fx fr hp hl hs hL kr =>
    va_newa (atype := .boolean) (a0 := (N, .inl (fun _ => 0))) (ty := .boolean) fx.1 fx.2.1 (fx.2.2.2.2.1 _ hw) rfl fr.1 hp.1 hp.2.1 hp.2.2.1 (zq_hA fr) (fun _ => rfl) hx hN hb hc hs1 hd (fun q cA H1 g0 g1 g2 g3 => zq_grow (e0 := .inl (2, N, .inl (fun _ => 0))) (cA := cA) fx fr hp hl (zq_tt hs) hL kr hlen (by simp [zq_e, zq_a, va_up_self]) trivial g1 g2 g3 (fun y hy => by cases hy; exact g0.2 0 (cA, .boolean) rfl) kk)
theorem zq_newq {idx : Nat} {x : Int32} {N : Nat} (hd : decode F.2.1 pc = .ok (.anewarray idx, 3)) (hw : Cond.classLink F.1 idx "RiichiTable$Player" ∈ zq_ws) (hx : ¬ x < 0) (hN : x.toNatClampNeg = N) (hb : N * 4 ≤ 536870912) (hlen : h.length + 1 < zq_B) (hc : k + 1 ≤ F.2.2.2.2.2.cells) (hs1 : n + N ≤ F.2.2.2.2.2.slots) (kk : zq_V G F (k + 1) (n + N) (pc + 3) L (.ref h.length :: st) (h ++ [.inl (3, N, .inr (.inr (.inr (.inr (fun _ => none)))))]) Q) : zq_V G F k n pc L (.int x :: st) h Q :=
  fun p e s m args below meth c H locs ls ad cls QW fx fr hp hl hs hL kr =>
    va_newq (C := "RiichiTable$Player") fx.1 fx.2.1 fx.2.2.2.1 (fx.2.2.2.2.1 _ hw) fr.2.2.2.2.2 fr.1 hp.1 hp.2.1 hp.2.2.1 (zq_hA fr) hx hN hb hc hs1 hd (fun q cA H1 g0 g1 g2 g3 => zq_grow (e0 := .inl (3, N, .inr (.inr (.inr (.inr (fun _ => none)))))) (cA := cA) fx fr hp hl (zq_tt hs) hL kr hlen (by simp [zq_e, zq_a, va_up_self]) (fun j y hy => by cases hy) g1 g2 g3 (fun y hy => by cases hy; exact g0.2 0 (cA, .object "RiichiTable$Player") rfl) kk)
theorem zq_new {idx ci N : Nat} {C : String} {T : u_T} {fs : List Value} (hd : decode F.2.1 pc = .ok (.new idx, 3)) (hcl : zq_cl[ci]? = some (C, T, N)) (hw : Cond.classLink F.1 idx C ∈ zq_ws) (hw2 : Cond.instantiable C N ∈ zq_ws) (hw3 : Cond.initialized C ∈ zq_ws) (hfs : ∀ j, j < N → defaultValue (zq_ft ci j) = vp_V fs j) (hno : ∀ v ∈ fs, zq_ok 0 v) (hid : fs.map (zq_v (fun a => a)) = fs ∧ ∀ ad, fs.map (zq_v ad) = fs) (hlen : h.length + 1 < zq_B) (hc : k + 1 ≤ F.2.2.2.2.2.cells) (hs1 : n + N ≤ F.2.2.2.2.2.slots) (kk : zq_V G F (k + 1) (n + N) (pc + 3) L (.ref h.length :: st) (h ++ [.inr (ci, fs)]) Q) : zq_V G F k n pc L st h Q :=
  fun p e s m args below meth c H locs ls ad cls QW fx fr hp hl hs hL kr =>
    va_new (ci := ci) (fs := fs) (C := C) (T := T) (N := N) fx.1 fx.2.1 fx.2.2.2.2.1 (zq_cl_ok hcl).1 (zq_ft ci) (zq_cl_ok hcl).2.1 fx.2.2.2.1 (fx.2.2.2.2.1 _ hw) (fx.2.2.2.2.1 _ hw2) (fx.2.2.2.2.1 _ hw3) fr.1 hp.1 hp.2.1 hp.2.2.1 (zq_hA fr) hcl hfs hc hs1 hd (fun q H1 g1 g2 g3 => zq_grow (e0 := .inr (ci, fs)) (cA := cls h.length) fx fr hp hl hs hL kr hlen (by simp only [zq_e]; rw [hid.2]) (fun v hv => (hno v hv).mono (Nat.zero_le _)) g1 g2 g3 (fun y hy => by cases hy) kk)
-- returns
theorem zq_iret {v : Int32} {ty : FieldType} (hd : decode F.2.1 pc = .ok (.ireturn, 1)) (ht : F.2.2.2.1 = some ty) (hn : narrow ty (.int v) = .int v) (hc : k ≤ F.2.2.2.2.2.cells) (hs1 : n ≤ F.2.2.2.2.2.slots) (hQ : Q (some (.int v)) h) : zq_V G F k n pc L [.int v] h Q :=
  fun p e s m args below meth c H locs ls ad cls QW fx fr hp hl hs hL kr => kr (some (.int v)) h ad cls H locs k n ls pc hQ hp zq_ag.rf (Nat.le_refl _) (fun w hw => by cases hw; trivial) hc hs1 ⟨hd, ty, ht, hn⟩
theorem zq_lret {v : Int64} (hd : decode F.2.1 pc = .ok (.lreturn, 1)) (ht : F.2.2.2.1 = some .long) (hc : k ≤ F.2.2.2.2.2.cells) (hs1 : n ≤ F.2.2.2.2.2.slots) (hQ : Q (some (.long v)) h) : zq_V G F k n pc L [.long v] h Q :=
  fun p e s m args below meth c H locs ls ad cls QW fx fr hp hl hs hL kr => kr (some (.long v)) h ad cls H locs k n ls pc hQ hp zq_ag.rf (Nat.le_refl _) (fun w hw => by cases hw; trivial) hc hs1 ⟨hd, ht⟩
theorem zq_vret (hd : decode F.2.1 pc = .ok (.return_, 1)) (ht : F.2.2.2.1 = none) (hc : k ≤ F.2.2.2.2.2.cells) (hs1 : n ≤ F.2.2.2.2.2.slots) (hQ : Q none h) : zq_V G F k n pc L [] h Q :=
  fun p e s m args below meth c H locs ls ad cls QW fx fr hp hl hs hL kr => kr none h ad cls H locs k n ls pc hQ hp zq_ag.rf (Nat.le_refl _) (fun w hw => by cases hw) hc hs1 ⟨hd, ht⟩
theorem zq_oinit {idx q : Nat} (hd : decode F.2.1 pc = .ok (.invokespecial idx, 3)) (hw : Cond.methodLink F.1 idx objectInit ∈ zq_ws) (hw2 : Cond.instanceMethod objectInit ∈ zq_ws) (hw3 : Cond.code objectInit ⟨#[0xb1]⟩ 1 none ∈ zq_ws) (hc : 1 ≤ F.2.2.2.2.2.frames) (hst : (st.map fun v => v.category).sum + 12 ≤ F.2.2.2.2.2.locals) (kk : zq_V G F k n (pc + 3) L st h Q) : zq_V G F k n pc L (.ref q :: st) h Q :=
  fun p e s m args below meth c H locs ls ad cls QW fx fr hp hl hs hL kr => by
    refine W.objInit fx.1 fx.2.1 fx.2.2.2.1 (fx.2.2.2.2.1 _ hw) (fx.2.2.2.2.1 _ hw2) (fx.2.2.2.2.1 _ hw3) rfl (by rw [fx.2.2.1]; exact hl.1) rfl hd hc ?_ ?_
    · have e1 : ((st.map (zq_v ad)).map fun v => v.category) = st.map fun v => v.category := by simp [List.map_map, Function.comp_def, zq_v_cat]
      show 2 * (F0 m pc ls _).monitorRoom + ((st.map (zq_v ad)).map fun v => v.category).sum + 12 ≤ _
      rw [e1]
      simpa [JFrame.monitorRoom] using hst
    · exact kk p e s m args below meth c H locs ls ad cls QW fx fr hp hl (zq_tt hs) hL kr
end ZNEW
