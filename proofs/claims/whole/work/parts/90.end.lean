/-! THE CLAIM OUT OF ONE WALK OF THE LAW'S BODY. Your part is whole_start (and what it stands on); all else here is the same for every law, but numbers. -/
def R_law : String := "RiichiTableLaw"
def lw_P (b : Addr) (xs : List Int32) (args : Array Value) (s : State) : Prop := args = #[.ref b] ∧ s.IntsAt b xs ∧ xs.length ≤ 2049 ∧ (Jvm.Cond.and given_1 narrow_1).before args s = true
def lw_Q (_ : Array Value) (s : State) (o : Outcome) (t : State) : Prop := o = .returned (some (.int 1)) ∧ Framed s o t [] 600000 7302249
def lw_Z (below : List Frame) (a : Array Value) (s : State) : State → Prop := fun t => ∃ o, t.status = .running ∧ Ended t below o ∧ lw_Q a s o t
/-- the law's own end, with 1 on the stack, nothing written that was there before, its room as the claim has it -/
theorem lw_ret {p : Program} {l : Launch} {e : Env} {s : State} {m : MethodId} {below : List Frame} {meth : Method} {c : Code} {b : Nat} (hx : p.tables.exec = Jvm.exec) (hb : c.code = code) (hr : meth.sig.returnType = ret) (hlocks : meth.locks = false) {pc : Nat} {H : Heap} {ls : Array Slot} (hdg : decode code pc = .ok (.ireturn, 1)) : W p l e room_1 s m #[Value.ref b] below meth c H [] 600000 7302249 (lw_Z below #[Value.ref b] s) (F0 m pc ls [.int 1]) := by
  intro T hT X
  obtain ⟨fs, hret, hrun, hended, hW, hframe⟩ := X.leave (v := some (.int 1)) (hlocks := hlocks) (fun h => by rw [hr] at h; cases h)
  have hmeth' : T.vm.method? m = some meth := X.method'
  refine ⟨T.setFrames fs, ?_, .returned (some (.int 1)), hrun, hended, rfl, ⟨_, rfl⟩, hW, hframe⟩
  jvm_step X.here [X.here.top, hx, hb, hdg, hmeth', hr, ret, narrow_b1]
  (try refine ⟨rfl, ?_⟩); (try refine ⟨rfl, ?_⟩)
  first | (intro acts; rw [hret _ acts rfl rfl rfl]) | rw [hret _ _ rfl rfl rfl]
  exact Steps.refl _
/-- what holds at the law's entry: the machine, the code, the tables' words (any of lw_tbl by 'hts w (by decide +kernel)'), the script of L ints xs at the cell b, what the Statement gives of the start (any of its parts by flat_of_before) -/
def lw_At (p : Program) (s : State) (m : MethodId) (meth : Method) (c : Code) (b L : Nat) (xs : Nat → Int32) : Prop :=
  p.tables.exec = Jvm.exec ∧ c.code = code ∧ meth.sig.returnType = ret ∧ c.maxLocals = 4 ∧ s.vm.findClass R_law = some m.cls ∧ (∀ w ∈ lw_tbl, w.before #[Value.ref b] s = true) ∧ va_X b L xs s s.heap ∧ b < s.heap.size ∧ meth.locks = false ∧ (Jvm.Cond.and given_1 narrow_1).before #[Value.ref b] s = true
theorem zl_closed : ∀ j, j < 30 → Cond.eq (.elem (.static "RiichiTable$Judge" "CLOSED_HAN" "[I") (.int (Int32.ofNat j))) (.int (zk_CLOSED j)) ∈ flatC (Jvm.Cond.and given_1 narrow_1) := by decide +kernel
theorem zl_open : ∀ j, j < 30 → Cond.eq (.elem (.static "RiichiTable$Judge" "OPEN_HAN" "[I") (.int (Int32.ofNat j))) (.int (zk_OPEN j)) ∈ flatC (Jvm.Cond.and given_1 narrow_1) := by decide +kernel
set_option maxHeartbeats 1000000 in
theorem whole_start {p : Program} {e : Env} {s : State} {m : MethodId} {below : List Frame} {meth : Method} {c : Code} (l : Launch) {b L : Nat} {xs : Nat → Int32} (hL : L ≤ 2049) (C0 : lw_At p s m meth c b L xs) : W p l e room_1 s m #[Value.ref b] below meth c s.heap [] 0 0 (lw_Z below #[Value.ref b] s) (entryFrame m ([Value.ref b] : List Value).toArray 4) := by
  obtain ⟨hx, hb, hr, hml, hown, hts, hX, hbl, hlocks, hgv⟩ := id C0
  obtain ⟨c0, i0, hK0⟩ := u_known (C := "RiichiTable") (T := zq_T_Table) (N := 14) (n := 14) hts (fun w hw => (List.mem_filter.mp (zq_i_Table w hw)).1) (hts _ (zq_c1 (List.mem_of_getElem? (i := 14) rfl)))
  obtain ⟨c1, i1, hK1⟩ := u_known (C := "RiichiTable$Wall") (T := zq_T_Wall) (N := 4) (n := 4) hts (fun w hw => (List.mem_filter.mp (zq_i_Wall w hw)).1) (hts _ (zq_c1 (List.mem_of_getElem? (i := 141) rfl)))
  obtain ⟨c2, i2, hK2⟩ := u_known (C := "RiichiTable$Player") (T := zq_T_Player) (N := 14) (n := 14) hts (fun w hw => (List.mem_filter.mp (zq_i_Player w hw)).1) (hts _ (zq_c1 (List.mem_of_getElem? (i := 161) rfl)))
  obtain ⟨c3, i3, hK3⟩ := u_known (C := "RiichiTable$Worth") (T := zq_T_Worth) (N := 5) (n := 5) hts (fun w hw => (List.mem_filter.mp (zq_i_Worth w hw)).1) (hts _ (zq_c1 (List.mem_of_getElem? (i := 58) rfl)))
  obtain ⟨c4, i4, hK4⟩ := u_known (C := "RiichiTable$Judge") (T := zq_T_Judge) (N := 15) (n := 15) hts (fun w hw => (List.mem_filter.mp (zq_i_Judge w hw)).1) (hts _ (zq_c1 (List.mem_of_getElem? (i := 24) rfl)))
  obtain ⟨c5, i5, hK5⟩ := u_known (C := "RiichiTable$Splitter") (T := zq_T_Splitter) (N := 6) (n := 6) hts (fun w hw => (List.mem_filter.mp (zq_i_Splitter w hw)).1) (hts _ (zq_c1 (List.mem_of_getElem? (i := 30) rfl)))
  obtain ⟨c6, i6, hK6⟩ := u_known (C := "RiichiTableModel") (T := zq_T_Model) (N := 50) (n := 50) hts (fun w hw => (List.mem_filter.mp (zq_i_Model w hw)).1) (hts _ (zq_c4 (List.mem_of_getElem? (i := 61) rfl)))
  obtain ⟨dC, dI, hKc⟩ : ∃ (dC : Nat → ClassId) (dI : Nat → Nat → Nat), ∀ (k : Nat) (q : vw_C), zq_cl[k]? = some q → u_Kn s q.1 q.2.1 q.2.2 (dC k) (dI k) := by
    refine ⟨fun k => ([c0, c1, c2, c3, c4, c5, c6] : List ClassId).getD k c0, fun k => ([i0, i1, i2, i3, i4, i5, i6] : List (Nat → Nat)).getD k i0, ?_⟩
    intro k q hq
    match k, hq with
    | 0, hq => cases hq; exact hK0
    | 1, hq => cases hq; exact hK1
    | 2, hq => cases hq; exact hK2
    | 3, hq => cases hq; exact hK3
    | 4, hq => cases hq; exact hK4
    | 5, hq => cases hq; exact hK5
    | 6, hq => cases hq; exact hK6
    | k + 7, hq => simp [zq_cl] at hq
  have hs := flat_of_before _ hgv
  have hA : ∀ a : Nat, a < s.heap.size → ¬ (fun q : Nat => s.heap.size ≤ q) a := fun a ha h => Nat.not_le.mpr ha h
  obtain ⟨tC, htC, hTC⟩ := va_Tof (tm := .static "RiichiTable$Judge" "CLOSED_HAN" "[I") (ty := .int) (N := 30) (f := fun j => .int (zk_CLOSED j)) (A := fun q => s.heap.size ≤ q) (by decide) (hs _ (by decide +kernel)) (va_eqt (z := Int32.ofNat 30) (hs _ (by decide +kernel))) (fun j hj => va_eqt (hs _ (zl_closed j hj))) hA
  obtain ⟨tO, htO, hTO⟩ := va_Tof (tm := .static "RiichiTable$Judge" "OPEN_HAN" "[I") (ty := .int) (N := 30) (f := fun j => .int (zk_OPEN j)) (A := fun q => s.heap.size ≤ q) (by decide) (hs _ (by decide +kernel)) (va_eqt (z := Int32.ofNat 30) (hs _ (by decide +kernel))) (fun j hj => va_eqt (hs _ (zl_open j hj))) hA
  have hZC := va_Zref (A := fun q => s.heap.size ≤ q) (hts _ (zq_c2 (List.mem_of_getElem? (i := 219) rfl))) (hts _ (zq_c1 (List.mem_of_getElem? (i := 2) rfl))) htC hA
  have hZO := va_Zref (A := fun q => s.heap.size ≤ q) (hts _ (zq_c2 (List.mem_of_getElem? (i := 221) rfl))) (hts _ (zq_c1 (List.mem_of_getElem? (i := 2) rfl))) htO hA
  have hTX : va_T .int b L (fun j => .int (xs j)) (fun q => s.heap.size ≤ q) s s.heap := by
    obtain ⟨scr, g1, g2, g3, g4, g5⟩ := hX
    exact ⟨scr, g1, g2, g3, Nat.le_of_eq g4.symm, by rw [g4], g5, hA b hbl⟩
  obtain ⟨ad, e0, e1, e2⟩ : ∃ ad : Nat → Nat, ad (zq_B + 0) = b ∧ ad (zq_B + 1) = tC ∧ ad (zq_B + 2) = tO := ⟨fun a => if a = zq_B + 0 then b else if a = zq_B + 1 then tC else tO, by simp, by simp, by simp⟩
  have hfr : zq_Fr (zk_g (l, (dC, dI), s.heap.size, (L, xs))) ad s := by
    refine ⟨⟨hKc, fun k q h => by simp at h⟩, fun w hw => ?_, Nat.le_refl _, fun i x hx => ?_, fun i x hx => ?_, ?_⟩
    · rcases zq_nest_of hw with ⟨a1, a2, a3, a4, a5, a6, rfl⟩ | ⟨a1, a2, a3, a4, rfl⟩
      · exact va_Nw.of rfl (hts _ (List.mem_filter.mp hw).1)
      · exact va_Nw.of rfl (hts _ (List.mem_filter.mp hw).1)
    · match i, hx with
      | 0, hx => cases hx; rw [e0]; exact hTX
      | 1, hx => cases hx; rw [e1]; exact hTC
      | 2, hx => cases hx; rw [e2]; exact hTO
      | i + 3, hx => simp [zk_g] at hx
    · match i, hx with
      | 0, hx => cases hx; show va_Z _ _ _ (.ref (ad (zq_B + 1))) _ _ _; rw [e1]; exact hZC
      | 1, hx => cases hx; show va_Z _ _ _ (.ref (ad (zq_B + 2))) _ _ _; rw [e2]; exact hZO
      | i + 2, hx => simp [zq_stat] at hx
    · exact va_AO.of (hts _ (zq_c1 (List.mem_of_getElem? (i := 22) rfl)))
  have hl := lv_entry ([.ref b]) (n := 4) (Nat.le_of_ble_eq_true rfl)
  rw [lg_entry_eq]
  generalize (lg_sl ([.ref b]) ++ List.replicate (4 - (lg_sl ([.ref b])).length) Slot.unset).toArray = ls at hl ⊢
  have hlv : lv_has ls 4 (zq_lv ad [some (.ref (zq_B + 0)), none, none, none]) := by
    refine ⟨hl.1, hl.2.1, fun q hq => hl.2.2 q ?_⟩
    obtain ⟨v, h1, h2⟩ := zq_lv_mem.mp hq
    obtain ⟨qi, qv⟩ := q
    match qi, h1 with
    | 0, h1 =>
      cases h1
      have h2 : qv = .ref (ad (zq_B + 0)) := h2
      rw [h2, e0]
      exact List.mem_cons_self
    | 1, h1 => cases h1
    | 2, h1 => cases h1
    | 3, h1 => cases h1
    | qi + 4, h1 => simp at h1
  refine zl_V (l := l) (D := (dC, dI)) (sz := s.heap.size) (Ls := L) (xs := xs) (zl_pure L xs hL) p e s m #[Value.ref b] below meth c s.heap [] ls ad (fun _ => 0) _ ⟨hx, hb, hml, hown, fun w hw => hts w (List.mem_filter.mp hw).1, hr, hlocks, fun h => by cases h⟩ hfr ⟨fun k q h => by simp [zq_w] at h, ⟨fun i j p q h => by simp [zq_w] at h, fun k q h => by simp [zq_w] at h⟩, va_S.rf, fun q e h => by simp at h, by decide, fun q x h => by simp at h⟩ hlv (fun v hv => by cases hv) (fun v hv => ?_) ?_
  · rcases List.mem_cons.mp hv with h | h
    · cases h
      exact Or.inr (Nat.le_refl _)
    · simp at h
  · intro v h' ad' cls' H' locs' k' n' ls' pc' hq hp' hag hle hok hk hn hret
    obtain ⟨r, m', hv, hh, hr1⟩ := hq
    subst hr1
    rw [hv] at hret ⊢
    refine va_forget (fun q hq => hp'.2.2.1.2.2 q hq) ?_
    exact W.widen hk hn (lw_ret hx hb hr hlocks hret.1)
-- ===== YOUR PART ENDS =====
set_option maxHeartbeats 4000000 in
theorem lw_walk (l : Launch) (b : Addr) (xs : List Int32) : MetFree l x (headSpec (Jvm.Cond.code x code maxLocals ret :: tables_1) room_1) (lw_P b xs) (fun _ _ _ _ _ => True) lw_Q := by
  refine MetFree.of_bodyS (code := code) (maxLocals := maxLocals) (ret := ret) (by decide) ?_ ?_
  · intro args s m h hn
    obtain ⟨meth, c, h1, h2, h3, h4, h5, h6, -, -⟩ := Cond.code_spec hn (atoms_spec (ws := Jvm.Cond.code x code maxLocals ret :: tables_1) h _ List.mem_cons_self)
    exact ⟨meth, c, h1, h2, h3, h4, h5, h6⟩
  · intro p e s m args below meth c s₁ B hml0 hP _
    obtain ⟨rfl, hx, hbd, hgv⟩ := hP
    obtain ⟨scr, harrAt, hlist, hof, hsmall⟩ := hx
    obtain ⟨hcb, hkn, -, -⟩ := State.arrayAt?_spec harrAt
    have hown : s.vm.findClass R_law = some m.cls := findClass_of_methodNamed B.named
    have hts0 : ∀ c ∈ (Jvm.Cond.code x code maxLocals ret :: tables_1), c.before #[Value.ref b] s = true := atoms_spec (ws := Jvm.Cond.code x code maxLocals ret :: tables_1) B.pre
    have hts : ∀ w ∈ lw_tbl, w.before #[Value.ref b] s = true := k2_hts_sels lw_privs (fun w hw => hts0 w (List.mem_cons_of_mem _ hw)) lw_privs_ok
    have hml : c.maxLocals = 4 := B.maxLocals_eq (hts0 _ List.mem_cons_self)
    have X₀ : Stand p l e room_1 s m #[Value.ref b] below meth c s₁ [] 0 0 := Stand.of_body B
    have hh0 : s₁.heap = s.heap := by rw [B.state]; rfl
    have hsz : scr.slots.size = xs.length := by rw [← Array.length_toList, hlist, List.length_map]
    have hval : ∀ j : Nat, j < xs.length → scr.slots[j]? = some (.int (xs.getD j 0)) := fun j hj => by
      rw [← Array.getElem?_toList, hlist]
      simp [hj]
    have hbl : b < s.heap.size := (Array.getElem?_eq_some_iff.mp hcb).1
    have hX : va_X b xs.length (fun j => xs.getD j 0) s s.heap := ⟨scr, hcb, hof, hkn, hsz, hval⟩
    have K : W p l e room_1 s m #[Value.ref b] below meth c s₁.heap [] 0 0 (lw_Z below #[Value.ref b] s) (entryFrame m ([Value.ref b] : List Value).toArray 4) := by
      rw [hh0]
      exact whole_start l hbd ⟨B.exec, B.bytes, B.returns, hml, hown, hts, hX, hbl, B.notSynchronized, hgv⟩
    obtain ⟨t, a1, o, b1, b2, b3⟩ := K s₁ rfl X₀
    exact ⟨t, o, a1, b1, b2, b3⟩
theorem lw_pre_spec {args : Array Value} {s : State} (h : (Jvm.Cond.and given_1 narrow_1).before args s = true) (hr : rest_1_c.before args s = true) : ∃ (b : Addr) (xs : List Int32), lw_P b xs args s := by
  have hs := flat_of_before _ h
  have hq := flat_of_before _ hr
  have hc : (Cond.count 1).before args s = true := hs _ (by decide +kernel)
  have harr : (Cond.arrayOf (.arg 0) .int).before args s = true := hs _ (by decide +kernel)
  have hle : (Cond.le (.length (.arg 0)) (.int 2049)).before args s = true := hs _ (by decide +kernel)
  have hlen : (Cond.isInt (.length (.arg 0))).before args s = true := hq _ (by decide +kernel)
  have hall : (Cond.all (.arg 0) (.isInt (.elem (.arg 0) (.index 0)))).before args s = true := hq _ (by decide +kernel)
  obtain ⟨b, xs, hb, hx⟩ := State.ints_of_pre rfl harr hlen hall
  have hsm : xs.length < 2 ^ 31 := hx.choose_spec.2.2.2
  have hev : (Term.length (.arg 0)).eval args s none [] s = some (.int xs.length.toInt32) := hx.length_eval hb
  have hv := Cond.le_ints hev (show (Term.int 2049).eval args s none [] s = some (.int 2049) from rfl)
  have hd : xs.length.toInt32 ≤ 2049 := by
    simpa [Cond.before, Cond.holds, hv] using hle
  have hN : xs.length ≤ 2049 := (Int32.ofNat_le_ofNat hsm (by decide)).mp (show Int32.ofNat xs.length ≤ Int32.ofNat 2049 from hd)
  exact ⟨b, xs, Cond.one_arg hc (show args[0]? = some (.ref b) from hb), hx, hN, h⟩
theorem lw_comes (l : Launch) : Comes l x (Jvm.Cond.code x code maxLocals ret :: tables_1) room_1 (fun tb e args s => Calls_1 tb e args s ∧ rest_1 tb e args s ∧ Pre_1 tb e args s)
    (fun _ _ args s o t => lw_Q args s o t) := by
  intro p e ha hc hk s m args below hf hfit hheap happ hpre
  obtain ⟨b, xs, hP⟩ := lw_pre_spec hpre.2.2 hpre.2.1
  obtain ⟨k, o, h1, h2, h3, hQ⟩ := lw_walk l b xs p e ha hc hk s m args below hf ((Spec.applies_iff_loose hf).mp happ).1 hP trivial
  exact ⟨k, o, h1, h2, h3, hQ⟩
theorem lw_frame {s t : State} {o : Outcome} {args : Array Value} (h : Framed s o t [] 600000 7302249) :
    Framed s o t (fieldLocs frame_1_writes args s ++ arrayLocs frame_1_arrays args s ++ staticLocs frame_1_statics s) 600000 7302249 := h
theorem lw_limb (L : Cond) (hL : ∀ (args : Array Value) (s t : State), L.after args s (.returned (some (.int 1))) t = true) :
    ArmFor flags0 classFile x code maxLocals ret World_1 tables_1 room_1 Calls_1 rest_1 Pre_1
      (fun tb e a s o t => postC L tb e a s o t ∧ Framed s o t (fieldLocs frame_1_writes a s ++ arrayLocs frame_1_arrays a s ++ staticLocs frame_1_statics s) 600000 7302249) := by
  intro l _ _ _ p e ha hc hk s m args below hf hfit hheap happ hpre
  obtain ⟨k, o, h1, h2, h3, rfl, hF⟩ := lw_comes l p e ha hc hk s m args below hf hfit hheap happ hpre
  exact ⟨k, _, h1, h2, h3, hL args s _, lw_frame hF⟩
theorem i_vc : Claimed_1_1 ∧ Claimed_1_2 := ⟨lw_limb limb_1_1 (fun args s t => by simp [limb_1_1, Cond.after, Cond.holds, Cond.value]), lw_limb limb_1_2 (fun args s t => Cond.after_iff.mpr (by
  first | (rw [show limb_1_2 = Cond.eq .result (.int 1) from rfl, Cond.eq_ints (x := 1) (y := 1) rfl rfl]; simp; done) | (simp [limb_1_2, Cond.value, Term.eval]; done)))⟩
