/-! METHODS: a contract out of a walk, and calls by it. M: name, bytes, number of locals, return type. -/
abbrev zq_Md : Type := MethodName × ByteArray × Nat × Option FieldType
abbrev zq_rm (d k n : Nat) : Room := { frames := d, cells := k, slots := n, locals := d * 100 }
def zq_Po (G : zq_G) (ad : Nat → Nat) (h : zq_H) (Q : Option Value → zq_H → Prop) : Array Value → State → Outcome → State → Prop := fun _ st oc t =>
  (∃ (v : Option Value) (h' : zq_H) (ad' : Nat → Nat) (cls' : Nat → ClassId), oc = .returned (v.map (zq_v ad')) ∧ Q v h' ∧ zq_ag h.length ad ad' ∧ h.length ≤ h'.length ∧ zq_okO h'.length v ∧ zq_Hp G ad' cls' t t.heap [] h') ∧ va_F (zq_A G) st t
def zq_Pr (G : zq_G) (ad : Nat → Nat) (cls : Nat → ClassId) (as : List Value) (h : zq_H) : State → Prop := fun U => zq_Fr G ad U ∧ zq_Hp G ad cls U U.heap [] h ∧ ∀ v ∈ as, zq_ok h.length v
def zq_Mt (G : zq_G) (M : zq_Md) (d k n : Nat) (as : List Value) (h : zq_H) (Q : Option Value → zq_H → Prop) : Prop :=
  ∀ (ad : Nat → Nat) (cls : Nat → ClassId), Met G.1 M.1 (.code M.1 M.2.1 M.2.2.1 M.2.2.2 :: zq_ws) (zq_rm d k n) (va_Pc (as.map (zq_v ad)) (zq_Pr G ad cls as h)) (zq_Po G ad h Q) k n (zq_A G)
theorem zq_nest_of {w : Cond} (h : w ∈ zq_nest) : (∃ a i b n d g, w = .fieldLinkNest a i b n d g) ∨ ∃ a i x g, w = .methodLinkNest a i x g := by
  have h1 := (List.mem_filter.mp h).2
  cases w <;> first | exact Or.inl ⟨_, _, _, _, _, _, rfl⟩ | exact Or.inr ⟨_, _, _, _, rfl⟩ | (simp [zq_nw] at h1)
theorem zq_nest_warm {w : Cond} (h : w ∈ zq_nest) {s U : State} (hW : s.WarmedH U.vm) (hZ : va_Nw w s) : va_Nw w U := by
  rcases zq_nest_of h with ⟨a, i, b, n, d, g, rfl⟩ | ⟨a, i, x, g, rfl⟩
  · exact va_Nw.warmF hW hZ
  · exact va_Nw.warmM hW hZ
theorem zq_nest_same {w : Cond} (h : w ∈ zq_nest) {s U : State} (hv : s.vm = U.vm) (hZ : va_Nw w s) : va_Nw w U := by
  rcases zq_nest_of h with ⟨a, i, b, n, d, g, rfl⟩ | ⟨a, i, x, g, rfl⟩
  · exact va_Nw.same rfl hv hZ
  · exact va_Nw.same rfl hv hZ
theorem zq_arr_moved {cls : Nat → ClassId} {u U : State} {h : zq_H} (hvm : u.vm.Alike U.vm) (ha : zq_arr cls u h) : zq_arr cls U h := fun q x hx => ⟨arrOfT_moved hvm (ha q x hx).1, (ha q x hx).2.moved hvm⟩
theorem zq_Fr_to {G : zq_G} {ad : Nat → Nat} {s U : State} {locs : List Loc} (hn : ∀ w ∈ zq_nest, va_Nw w U) (hvm : s.vm.Alike U.vm) (hS : va_S (zq_A G) s.heap U.heap locs) (fr : zq_Fr G ad s) : zq_Fr G ad U :=
  ⟨va_K.moved hvm fr.1, hn, Nat.le_trans fr.2.2.1 hS.1, fun i x hx => ((fr.2.2.2.1 i x hx).kept (fun a h1 h2 => hS.2.1 a h1 h2)).moved hvm, fun i x hx => ((fr.2.2.2.2.1 i x hx).kept (fun a h1 h2 => hS.2.1 a h1 h2)).moved hvm, va_AO.moved hvm fr.2.2.2.2.2⟩
theorem zq_blind {G : zq_G} {ad : Nat → Nat} {cls : Nat → ClassId} {as : List Value} {h : zq_H} {av : List Value} : FrameBlind (va_Pc av (zq_Pr G ad cls as h)) := by
  intro a U g mk q
  obtain ⟨q0, fr, hp, hok⟩ := q
  have hvm : U.vm.Alike (U.calling g mk a).vm := Vm.Alike.refl U.vm
  refine ⟨q0, zq_Fr_to (locs := []) (fun w hw => zq_nest_same (s := U) (U := U.calling g mk a) hw rfl (fr.2.1 w hw)) hvm va_S.rf fr, ⟨hp.1, hp.2.1, va_S.rf, hp.2.2.2.1, hp.2.2.2.2.1, zq_arr_moved hvm hp.2.2.2.2.2⟩, hok⟩
theorem zq_pre {G : zq_G} {ad : Nat → Nat} {cls : Nat → ClassId} {as : List Value} {h : zq_H} {s U : State} {H : Heap} {locs : List Loc} (fr : zq_Fr G ad s) (hp : zq_Hp G ad cls s H locs h) (hok : ∀ v ∈ as, zq_ok h.length v) (hU : U.heap = H) (hW : s.WarmedH U.vm) : zq_Pr G ad cls as h U := by
  subst hU
  exact ⟨zq_Fr_to (fun w hw => zq_nest_warm hw hW (fr.2.1 w hw)) hW.alike hp.2.2.1 fr, ⟨hp.1, hp.2.1, va_S.rf, hp.2.2.2.1, hp.2.2.2.2.1, zq_arr_moved hW.alike hp.2.2.2.2.2⟩, hok⟩
theorem zq_sl_len {ad : Nat → Nat} : ∀ (as : List Value), (lg_sl (as.map (zq_v ad))).length = (zq_ent as).length
  | [] => rfl
  | v :: as => by
    have ih := zq_sl_len (ad := ad) as
    cases v <;> simp_all [lg_sl, zq_ent, zq_v, Value.category]
theorem zq_ent_ok : ∀ (as : List Value) (v : Value), some v ∈ zq_ent as → v ∈ as
  | [], v, h => by simp [zq_ent] at h
  | w :: as, v, h => by
    have ih := zq_ent_ok as v
    cases w <;> simp_all [zq_ent] <;> (rcases h with h | h <;> simp_all)
set_option maxHeartbeats 1000000 in
theorem zq_meth {G : zq_G} {M : zq_Md} {d k n : Nat} {as : List Value} {h : zq_H} {Q : Option Value → zq_H → Prop} {ini : Bool} (hy : plainName M.1.cls = true) (hini : ini = true → M.1.name = "<init>") (hlen : (zq_ent as).length ≤ M.2.2.1)
    (body : zq_V G (M.1.cls, M.2.1, M.2.2.1, M.2.2.2, ini, zq_rm d k n) 0 0 0 (zq_pad M.2.2.1 (zq_ent as)) [] h Q) : zq_Mt G M d k n as h Q := by
  intro ad cls
  refine Met.ofW (cc := M.2.1) (maxL := M.2.2.1) (ret := M.2.2.2) hy rfl ?_
  intro p e s m args below meth c s₁ B hml hv
  obtain ⟨rfl, fr, hp, hok⟩ := hv
  have hts : ∀ w ∈ zq_ws, w.before (as.map (zq_v ad)).toArray s = true := fun w hw => atoms_spec (ws := .code M.1 M.2.1 M.2.2.1 M.2.2.2 :: zq_ws) B.pre w (List.mem_cons_of_mem _ hw)
  have hl := lv_entry (as.map (zq_v ad)) (n := M.2.2.1) (by rw [zq_sl_len]; exact hlen)
  rw [lg_entry_eq]
  generalize (lg_sl (as.map (zq_v ad)) ++ List.replicate (M.2.2.1 - (lg_sl (as.map (zq_v ad))).length) Slot.unset).toArray = ls at hl ⊢
  refine body p e s m _ below meth c s.heap [] ls ad cls _ ⟨B.exec, B.bytes, hml, findClass_of_methodNamed B.named, hts, B.returns, B.notSynchronized, fun hi => by rw [(name_of_methodNamed B.named B.method).1]; exact hini hi⟩ fr hp (zq_entry hl) (fun v hv => by cases hv) (fun v hv => ?_) ?_
  · obtain ⟨i, hi⟩ := List.getElem?_of_mem hv
    exact hok v (zq_ent_ok as v (List.mem_of_getElem? (zq_pad_get hi)))
  · intro v h' ad' cls' H' locs' k' n' ls' pc' hq hp' hag hle hok' hk hn hret
    refine W.widen hk hn ?_
    have post : ∀ t : State, t.heap = H' → s.WarmedH t.vm → zq_Po G ad h Q (as.map (zq_v ad)).toArray s (.returned (v.map (zq_v ad'))) t := by
      intro t ht hW
      refine ⟨⟨v, h', ad', cls', rfl, hq, hag, hle, hok', ?_⟩, hp'.2.2.1.F ht⟩
      exact ⟨by rw [ht]; exact hp'.1, hp'.2.1, va_S.rf, hp'.2.2.2.1, hp'.2.2.2.2.1, zq_arr_moved hW.alike hp'.2.2.2.2.2⟩
    match v, hret, post with
    | none, hret, post => exact W.vret B.exec B.bytes (B.returns.trans hret.2) post hp'.2.2.1.2.2 hret.1
    | some (.int x), hret, post =>
      obtain ⟨h1, ty, h2, h3⟩ := hret
      exact W.zret B.exec B.bytes (B.returns.trans h2) h3 post hp'.2.2.1.2.2 h1
    | some (.long x), hret, post => exact W.lret B.exec B.bytes (B.returns.trans hret.2) post hp'.2.2.1.2.2 hret.1
section ZCALL
variable {G : zq_G} {F : zq_C} {k n pc : Nat} {L : List (Option Value)} {st : List Value} {h : zq_H} {Q : Option Value → zq_H → Prop}
theorem zq_go {p : Program} {e : Env} {s : State} {m : MethodId} {args : Array Value} {below : List Frame} {meth : Method} {c : Code} {H : Heap} {locs : List Loc} {ls : Array Slot} {ad : Nat → Nat} {QW : State → Prop} {mc ms : Nat} {st0 : List Value} {av : Array Value} {Q1 : Option Value → zq_H → Prop} {cls : Nat → ClassId}
    (hr : va_Run p G.1 e F.2.2.2.2.2 s m args below meth c H locs k n mc ms (F0 m pc ls st0) (st.map (zq_v ad)) (zq_Po G ad h Q1 av) (zq_A G))
    (fx : zq_Fx p s m args meth c F.1 F.2.1 F.2.2.1 F.2.2.2.1 F.2.2.2.2.1) (fr : zq_Fr G ad s) (hp : zq_Hp G ad cls s H locs h) (hl : lv_has ls F.2.2.1 (zq_lv ad L)) (hs : ∀ v ∈ st, zq_ok h.length v) (hL : ∀ v, some v ∈ L → zq_ok h.length v)
    (kr : ∀ (v : Option Value) (h' : zq_H) (ad' : Nat → Nat) (cls' : Nat → ClassId) (H' : Heap) (locs' : List Loc) (k' n' : Nat) (ls' : Array Slot) (pc' : Nat), Q v h' → zq_Hp G ad' cls' s H' locs' h' → zq_ag h.length ad ad' → h.length ≤ h'.length → zq_okO h'.length v → k' ≤ F.2.2.2.2.2.cells → n' ≤ F.2.2.2.2.2.slots → zq_Ret F.2.2.2.1 F.2.1 pc' v →
      W p G.1 e F.2.2.2.2.2 s m args below meth c H' locs' k' n' QW (F0 m pc' ls' ((v.map (zq_v ad')).toList)))
    (kk : ∀ v h', Q1 v h' → zq_V G F (k + mc) (n + ms) (pc + 3) L (v.toList ++ st) h' Q) : W p G.1 e F.2.2.2.2.2 s m args below meth c H locs k n QW (F0 m pc ls st0) := by
  intro T hT X
  obtain ⟨v, st₀, t, T', Lc, h0, X', hLc, e1, e2, ⟨⟨v1, h', ad', cls', hv, hq, hag, hle, hok, hp'⟩, hz, hk⟩, stt⟩ := hr T hT X
  cases hv
  rw [h0] at hz hk
  have hvm : s.vm.Alike t.vm := by rw [← e2]; exact X'.warmed.alike
  have hS := hp.2.2.1
  have key := kk v1 h' hq p e s m args below meth c T'.heap (locs ++ Lc) ls ad' cls' QW fx (zq_Fr_ag hag fr) ⟨by rw [e1]; exact hp'.1, hp'.2.1, ⟨Nat.le_trans hS.1 (by rw [e1]; exact hz), fun q h1 h2 => by rw [e1, hk q (Nat.lt_of_lt_of_le h1 hS.1) h2]; exact hS.2.1 q h1 h2, fun q hq => by
      rcases List.mem_append.mp hq with h1 | h1
      · exact hS.2.2 q h1
      · exact hLc q h1⟩, hp'.2.2.2.1, hp'.2.2.2.2.1, zq_arr_moved hvm.symm hp'.2.2.2.2.2⟩ (zq_lv_ag hag hL hl) (fun w hw => ?_) (fun w hw => (hL w hw).mono hle) (fun v2 h2 ad2 cls2 H2 locs2 k2 n2 ls2 pc2 q1 q2 q3 q4 q5 q6 q7 q8 => kr v2 h2 ad2 cls2 H2 locs2 k2 n2 ls2 pc2 q1 q2 (hag.trans hle q3) (Nat.le_trans hle q4) q5 q6 q7 q8)
  · obtain ⟨t2, a1, b1⟩ := key T' rfl X'
    refine ⟨t2, stt t2 ?_, b1⟩
    have e3 : (v1.toList ++ st).map (zq_v ad') = (v1.map (zq_v ad')).toList ++ st.map (zq_v ad) := by
      rw [List.map_append, zq_vs_ag hag hs]
      cases v1 <;> rfl
    rw [e3] at a1
    exact a1
  · rcases List.mem_append.mp hw with h1 | h1
    · cases v1 with
      | none => cases h1
      | some z => rw [List.mem_singleton.mp h1]; exact hok z rfl
    · exact (hs w h1).mono hle
/-- what a call needs of the tables -/
def zq_CC (own : String) (idx : Nat) (M : zq_Md) (na : Nat) : Prop := (Cond.methodLink own idx M.1 ∈ zq_ws ∨ ∃ host, Cond.methodLinkNest own idx M.1 host ∈ zq_nest) ∧ Cond.code M.1 M.2.1 M.2.2.1 M.2.2.2 ∈ zq_ws ∧ Cond.initialized M.1.cls ∈ zq_ws ∧ (M.1.cls ≠ "java/lang/invoke/MethodHandle" ∧ M.1.cls ≠ "java/lang/invoke/VarHandle" ∧ (parseMethodDescriptor M.1.desc).map (fun d => d.parameters.length) = some na) ∧ M.2.2.1 + 19 ≤ 100
theorem zq_gi {M : zq_Md} (hc : Cond.code M.1 M.2.1 M.2.2.1 M.2.2.2 ∈ zq_ws) : GoodIn zq_ws (.code M.1 M.2.1 M.2.2.1 M.2.2.2 :: zq_ws) := by
  intro w hw
  have hm : w ∈ zq_ws := by
    rcases List.mem_cons.mp hw with rfl | h1
    · exact hc
    · exact h1
  exact ⟨hm, good_of_word (List.mem_filter.mp hm).2⟩
theorem zq_catsum {ad : Nat → Nat} {st : List Value} {m : MethodId} {pc : Nat} {ls : Array Slot} {st0 : List Value} (hst : (st.map fun v => v.category).sum ≤ 8) : 2 * (F0 m pc ls st0).monitorRoom + ((st.map (zq_v ad)).map fun v => v.category).sum ≤ 8 := by
  refine lv_room ?_
  have e1 : ((st.map (zq_v ad)).map fun v => v.category) = st.map fun v => v.category := by simp [List.map_map, Function.comp_def, zq_v_cat]
  rw [e1]
  exact hst
theorem zq_calls {idx na d mc ms : Nat} {M : zq_Md} {as : List Value} {Q1 : Option Value → zq_H → Prop} (hd : decode F.2.1 pc = .ok (.invokestatic idx, 3)) (hC : zq_CC F.1 idx M na) (hw : Cond.static M.1 ∈ zq_ws) (hM : zq_Mt G M d mc ms as h Q1) (hna : as.length = na) (hR : d + 1 ≤ F.2.2.2.2.2.frames ∧ (d + 1) * 100 ≤ F.2.2.2.2.2.locals) (hst : (st.map fun v => v.category).sum ≤ 8) (hc : k + mc ≤ F.2.2.2.2.2.cells) (hn : n + ms ≤ F.2.2.2.2.2.slots)
    (kk : ∀ v h', Q1 v h' → zq_V G F (k + mc) (n + ms) (pc + 3) L (v.toList ++ st) h' Q) : zq_V G F k n pc L (as.reverse ++ st) h Q :=
  fun p e s m args below meth c H locs ls ad cls QW fx fr hp hl hs hL kr => by
    obtain ⟨hlk, hcode, hini, hdd, hloc⟩ := hC
    have hsa : ∀ v ∈ as, zq_ok h.length v := fun v hv => hs v (List.mem_append_left _ (List.mem_reverse.mpr hv))
    have hss : ∀ v ∈ st, zq_ok h.length v := fun v hv => hs v (List.mem_append_right _ hv)
    have hroom : (zq_rm d mc ms).frames + 1 ≤ F.2.2.2.2.2.frames ∧ 8 + (M.2.2.1 + 11) + (zq_rm d mc ms).locals ≤ F.2.2.2.2.2.locals := ⟨hR.1, by have := hR.2; simp only [zq_rm]; omega⟩
    have hPre : PreS s H (va_Pc (as.map (zq_v ad)) (zq_Pr G ad cls as h)) (as.map (zq_v ad)) := ⟨zq_blind, fun U hU hW => ⟨rfl, zq_pre fr hp hsa hU hW⟩⟩
    have e1 : (as.reverse ++ st).map (zq_v ad) = (as.map (zq_v ad)).reverse ++ st.map (zq_v ad) := by rw [List.map_append, List.map_reverse]
    rw [e1]
    refine zq_go (mc := mc) (ms := ms) (Q1 := Q1) (av := (as.map (zq_v ad)).toArray) ?_ fx fr hp hl hss hL kr kk
    rcases hlk with hlk | ⟨host, hlk⟩
    · exact va_runS (nL := F.2.2.1) ⟨fx.1, fx.2.1, fx.2.2.1, fx.2.2.2.1, fx.2.2.2.2.1⟩ (hM ad cls) ⟨callB_of na fx.2.2.2.2.1 (zq_gi hcode) rfl rfl rfl (fx.2.2.2.2.1 _ hini) (fx.2.2.2.2.1 _ hlk) hdd hroom, fx.2.2.2.2.1 _ hw⟩ hPre rfl (by rw [List.length_map]; exact hna) hl.1 rfl (zq_catsum hst) hd ⟨hc, hn⟩
    · exact va_runSN (nL := F.2.2.1) ⟨fx.1, fx.2.1, fx.2.2.1, fx.2.2.2.1, fx.2.2.2.2.1⟩ (hM ad cls) ⟨va_cnB na fx.2.2.2.2.1 (zq_gi hcode) rfl rfl rfl (fr.2.1 _ hlk) (fx.2.2.2.2.1 _ hini) hdd hroom, fx.2.2.2.2.1 _ hw, trivial⟩ hPre rfl (by rw [List.length_map]; exact hna) hl.1 rfl (zq_catsum hst) hd ⟨hc, hn⟩
theorem zq_callv {idx na d mc ms q ci N : Nat} {T : u_T} {fs : List Value} {M : zq_Md} {as : List Value} {Q1 : Option Value → zq_H → Prop} (hd : decode F.2.1 pc = .ok (.invokevirtual idx, 3)) (hC : zq_CC F.1 idx M na) (hw : Cond.instanceMethod M.1 ∈ zq_ws ∧ Cond.selects M.1.cls M.1 M.1 ∈ zq_ws ∧ zq_cl[ci]? = some (M.1.cls, T, N)) (hq : h[q]? = some (.inr (ci, fs))) (hM : zq_Mt G M d mc ms (.ref q :: as) h Q1) (hna : as.length = na) (hR : d + 1 ≤ F.2.2.2.2.2.frames ∧ (d + 1) * 100 ≤ F.2.2.2.2.2.locals) (hst : (st.map fun v => v.category).sum ≤ 8) (hc : k + mc ≤ F.2.2.2.2.2.cells) (hn : n + ms ≤ F.2.2.2.2.2.slots)
    (kk : ∀ v h', Q1 v h' → zq_V G F (k + mc) (n + ms) (pc + 3) L (v.toList ++ st) h' Q) : zq_V G F k n pc L (as.reverse ++ .ref q :: st) h Q :=
  fun p e s m args below meth c H locs ls ad cls QW fx fr hp hl hs hL kr => by
    obtain ⟨hlk, hcode, hini, hdd, hloc⟩ := hC
    have hsa : ∀ v ∈ Value.ref q :: as, zq_ok h.length v := fun v hv => by
      rcases List.mem_cons.mp hv with rfl | h1
      · exact hs _ (List.mem_append_right _ List.mem_cons_self)
      · exact hs v (List.mem_append_left _ (List.mem_reverse.mpr h1))
    have hss : ∀ v ∈ st, zq_ok h.length v := fun v hv => hs v (List.mem_append_right _ (List.mem_cons_of_mem _ hv))
    have hroom : (zq_rm d mc ms).frames + 1 ≤ F.2.2.2.2.2.frames ∧ 8 + (M.2.2.1 + 11) + (zq_rm d mc ms).locals ≤ F.2.2.2.2.2.locals := ⟨hR.1, by have := hR.2; simp only [zq_rm]; omega⟩
    have hPre : PreV s H M.1.cls (ad q) (va_Pc ((Value.ref q :: as).map (zq_v ad)) (zq_Pr G ad cls (.ref q :: as) h)) (as.map (zq_v ad)) := ⟨zq_blind, va_recv fr.1 hp.1 hw.2.2 (zq_w_get hq), fun U hU hW => ⟨rfl, zq_pre fr hp hsa hU hW⟩⟩
    have e1 : (as.reverse ++ .ref q :: st).map (zq_v ad) = (as.map (zq_v ad)).reverse ++ .ref (ad q) :: st.map (zq_v ad) := by rw [List.map_append, List.map_reverse]; rfl
    rw [e1]
    refine zq_go (mc := mc) (ms := ms) (Q1 := Q1) (av := (Value.ref (ad q) :: as.map (zq_v ad)).toArray) ?_ fx fr hp hl hss hL kr kk
    rcases hlk with hlk | ⟨host, hlk⟩
    · exact va_runV (nL := F.2.2.1) ⟨fx.1, fx.2.1, fx.2.2.1, fx.2.2.2.1, fx.2.2.2.2.1⟩ (hM ad cls) ⟨callB_of na fx.2.2.2.2.1 (zq_gi hcode) rfl rfl rfl (fx.2.2.2.2.1 _ hini) (fx.2.2.2.2.1 _ hlk) hdd hroom, fx.2.2.2.2.1 _ hw.1, fx.2.2.2.2.1 _ hw.2.1⟩ hPre rfl (by rw [List.length_map]; exact hna) hl.1 rfl (zq_catsum hst) hd ⟨hc, hn⟩
    · exact va_runVN (nL := F.2.2.1) ⟨fx.1, fx.2.1, fx.2.2.1, fx.2.2.2.1, fx.2.2.2.2.1⟩ (hM ad cls) ⟨va_cnB na fx.2.2.2.2.1 (zq_gi hcode) rfl rfl rfl (fr.2.1 _ hlk) (fx.2.2.2.2.1 _ hini) hdd hroom, fx.2.2.2.2.1 _ hw.1, fx.2.2.2.2.1 _ hw.2.1⟩ hPre rfl (by rw [List.length_map]; exact hna) hl.1 rfl (zq_catsum hst) hd ⟨hc, hn⟩
theorem zq_calln {idx na d mc ms q : Nat} {y : MethodName} {b : ByteArray} {nL : Nat} {as : List Value} {Q1 : Option Value → zq_H → Prop} (hd : decode F.2.1 pc = .ok (.invokespecial idx, 3)) (hC : zq_CC F.1 idx (y, b, nL, none) na) (hw : Cond.instanceMethod y ∈ zq_ws ∧ y.name = "<init>") (hM : zq_Mt G (y, b, nL, none) d mc ms (.ref q :: as) h Q1) (hna : as.length = na) (hR : d + 1 ≤ F.2.2.2.2.2.frames ∧ (d + 1) * 100 ≤ F.2.2.2.2.2.locals) (hst : (st.map fun v => v.category).sum ≤ 8) (hc : k + mc ≤ F.2.2.2.2.2.cells) (hn : n + ms ≤ F.2.2.2.2.2.slots)
    (kk : ∀ v h', Q1 v h' → zq_V G F (k + mc) (n + ms) (pc + 3) L (v.toList ++ st) h' Q) : zq_V G F k n pc L (as.reverse ++ .ref q :: st) h Q :=
  fun p e s m args below meth c H locs ls ad cls QW fx fr hp hl hs hL kr => by
    obtain ⟨hlk, hcode, hini, hdd, hloc⟩ := hC
    have hsa : ∀ v ∈ Value.ref q :: as, zq_ok h.length v := fun v hv => by
      rcases List.mem_cons.mp hv with rfl | h1
      · exact hs _ (List.mem_append_right _ List.mem_cons_self)
      · exact hs v (List.mem_append_left _ (List.mem_reverse.mpr h1))
    have hss : ∀ v ∈ st, zq_ok h.length v := fun v hv => hs v (List.mem_append_right _ (List.mem_cons_of_mem _ hv))
    have hroom : (zq_rm d mc ms).frames + 1 ≤ F.2.2.2.2.2.frames ∧ 8 + (nL + 11) + (zq_rm d mc ms).locals ≤ F.2.2.2.2.2.locals := ⟨hR.1, by have := hR.2; simp only [zq_rm] at hloc ⊢; omega⟩
    have hPre : PreS s H (va_Pc ((Value.ref q :: as).map (zq_v ad)) (zq_Pr G ad cls (.ref q :: as) h)) (.ref (ad q) :: as.map (zq_v ad)) := ⟨zq_blind, fun U hU hW => ⟨rfl, zq_pre fr hp hsa hU hW⟩⟩
    have e1 : (as.reverse ++ .ref q :: st).map (zq_v ad) = (as.map (zq_v ad)).reverse ++ .ref (ad q) :: st.map (zq_v ad) := by rw [List.map_append, List.map_reverse]; rfl
    rw [e1]
    refine zq_go (mc := mc) (ms := ms) (Q1 := Q1) (av := (Value.ref (ad q) :: as.map (zq_v ad)).toArray) ?_ fx fr hp hl hss hL kr kk
    rcases hlk with hlk | ⟨host, hlk⟩
    · exact va_runI (nL := F.2.2.1) ⟨fx.1, fx.2.1, fx.2.2.1, fx.2.2.2.1, fx.2.2.2.2.1⟩ (hM ad cls) ⟨callB_of na fx.2.2.2.2.1 (zq_gi hcode) rfl rfl rfl (fx.2.2.2.2.1 _ hini) (fx.2.2.2.2.1 _ hlk) hdd hroom, hw.2, fx.2.2.2.2.1 _ hw.1⟩ hPre rfl (by rw [List.length_map]; exact hna) hl.1 rfl (zq_catsum hst) hd ⟨hc, hn⟩
    · exact va_runIN (nL := F.2.2.1) ⟨fx.1, fx.2.1, fx.2.2.1, fx.2.2.2.1, fx.2.2.2.2.1⟩ (hM ad cls) ⟨va_cnB na fx.2.2.2.2.1 (zq_gi hcode) rfl rfl rfl (fr.2.1 _ hlk) (fx.2.2.2.2.1 _ hini) hdd hroom, hw.2, fx.2.2.2.2.1 _ hw.1⟩ hPre rfl (by rw [List.length_map]; exact hna) hl.1 rfl (zq_catsum hst) hd ⟨hc, hn⟩
end ZCALL
