/-! THE TABLE FINDS THE BEST READING -/
/-- what was rated before way i with the last tile at l -/
def Pq (P0 : zV → Prop) (Wl : List (Nat × List Nat)) (w : Nat) (val : Nat × List Nat → Nat → zV) (lt : Nat × List Nat → Nat → Prop) (i l : Nat) : zV → Prop := fun v => P0 v ∨ (¬ v.2.2.2 = 0 ∧ ∃ j x la, Wl[j]? = some x ∧ w ≤ la ∧ la ≤ 4 ∧ (j < i ∨ (j = i ∧ la < l)) ∧ lt x la ∧ v = val x la)
theorem Pq_1 {P0 : zV → Prop} {Wl : List (Nat × List Nat)} {w i l : Nat} {val : Nat × List Nat → Nat → zV} {lt : Nat × List Nat → Nat → Prop} {x : Nat × List Nat} (hx : Wl[i]? = some x) (h1 : w ≤ l) (h2 : l ≤ 4) (h : lt x l) (v : zV) : (Pq P0 Wl w val lt i l v ∨ (v = val x l ∧ ¬ (val x l).2.2.2 = 0)) ↔ Pq P0 Wl w val lt i (l + 1) v := by
  constructor
  · rintro ((z | ⟨z1, j, y, la, a1, a2, a3, a4, a5⟩) | ⟨z1, z2⟩)
    · exact Or.inl z
    · exact Or.inr ⟨z1, j, y, la, a1, a2, a3, by omega, a5⟩
    · exact Or.inr ⟨by rw [z1]; exact z2, i, x, l, hx, h1, h2, by omega, h, z1⟩
  · rintro (z | ⟨z1, j, y, la, a1, a2, a3, a4, a5, a6⟩)
    · exact Or.inl (Or.inl z)
    · by_cases q : j = i ∧ la = l
      · rw [q.1, hx] at a1
        injection a1 with a1
        refine Or.inr ?_
        rw [a1, ← q.2, ← a6]
        exact ⟨rfl, z1⟩
      · exact Or.inl (Or.inr ⟨z1, j, y, la, a1, a2, a3, by omega, a5, a6⟩)
theorem Pq_0 {P0 : zV → Prop} {Wl : List (Nat × List Nat)} {w i l : Nat} {val : Nat × List Nat → Nat → zV} {lt : Nat × List Nat → Nat → Prop} {x : Nat × List Nat} (hx : Wl[i]? = some x) (h : ¬ lt x l) (v : zV) : Pq P0 Wl w val lt i l v ↔ Pq P0 Wl w val lt i (l + 1) v := by
  constructor
  · rintro (z | ⟨z1, j, y, la, a1, a2, a3, a4, a5⟩)
    · exact Or.inl z
    · exact Or.inr ⟨z1, j, y, la, a1, a2, a3, by omega, a5⟩
  · rintro (z | ⟨z1, j, y, la, a1, a2, a3, a4, a5, a6⟩)
    · exact Or.inl z
    · by_cases q : j = i ∧ la = l
      · rw [q.1, hx] at a1
        injection a1 with a1
        rw [← a1, q.2] at a5
        exact absurd a5 h
      · exact Or.inr ⟨z1, j, y, la, a1, a2, a3, by omega, a5, a6⟩
theorem Pq_n {P0 : zV → Prop} {Wl : List (Nat × List Nat)} {w i : Nat} {val : Nat × List Nat → Nat → zV} {lt : Nat × List Nat → Nat → Prop} (v : zV) : Pq P0 Wl w val lt i 5 v ↔ Pq P0 Wl w val lt (i + 1) w v := by
  constructor
  · rintro (z | ⟨z1, j, y, la, a1, a2, a3, a4, a5⟩)
    · exact Or.inl z
    · exact Or.inr ⟨z1, j, y, la, a1, a2, a3, by omega, a5⟩
  · rintro (z | ⟨z1, j, y, la, a1, a2, a3, a4, a5⟩)
    · exact Or.inl z
    · exact Or.inr ⟨z1, j, y, la, a1, a2, a3, by omega, a5⟩
theorem Pq_b {P0 : zV → Prop} {Wl : List (Nat × List Nat)} {w : Nat} {val : Nat × List Nat → Nat → zV} {lt : Nat × List Nat → Nat → Prop} (v : zV) : P0 v ↔ Pq P0 Wl w val lt 0 w v := by
  constructor
  · exact fun z => Or.inl z
  · rintro (z | ⟨z1, j, y, la, a1, a2, a3, a4, a5⟩)
    · exact z
    · omega
theorem Pq_e {P0 : zV → Prop} {Wl : List (Nat × List Nat)} {w i : Nat} {val : Nat × List Nat → Nat → zV} {lt : Nat × List Nat → Nat → Prop} (hi : Wl.length ≤ i) (v : zV) : Pq P0 Wl w val lt i w v ↔ (P0 v ∨ (¬ v.2.2.2 = 0 ∧ ∃ x la, x ∈ Wl ∧ w ≤ la ∧ la ≤ 4 ∧ lt x la ∧ v = val x la)) := by
  constructor
  · rintro (z | ⟨z1, j, y, la, a1, a2, a3, a4, a5⟩)
    · exact Or.inl z
    · exact Or.inr ⟨z1, y, la, List.mem_of_getElem? a1, a2, a3, a5⟩
  · rintro (z | ⟨z1, y, la, a1, a2, a3, a5⟩)
    · exact Or.inl z
    · obtain ⟨j, hj⟩ := List.getElem?_of_mem a1
      have := gO_ltg hj
      exact Or.inr ⟨z1, j, y, la, hj, a2, a3, by omega, a5⟩
/-- what stays while ways are rated -/
def eqB (m m' : zm) : Prop := ∀ q j, ¬ (q = 8 ∨ q = 9 ∨ q = 10 ∨ (q = 2 ∧ (j = 3 ∨ j = 7))) → m'.1 q j = m.1 q j ∧ m'.2 q j = m.2 q j
def Fb (m : zm) (S : zS) (p : Nat) (sd : Bool) (Wl : List (Nat × List Nat)) : Prop := m.1 2 4 = nI (S.1 2 p) ∧ m.1 2 5 = bI (bb (cls S p)) ∧ m.1 2 6 = nI (til S) ∧ m.1 2 8 = bI sd ∧ m.1 2 9 = nI (27 + (p + 4 - S.1 12 0) % 4) ∧ m.1 2 10 = nI (27 + S.1 13 0) ∧ m.2 2 11 = lY (hb_ S p sd) ∧ m.1 2 12 = nI (dor S p (ac S p sd) (S.1 17 0 + 1)) ∧ Ws m (S.1 2 p) (mf S p) Wl
theorem Fb.b {m m' : zm} {S : zS} {p : Nat} {sd : Bool} {Wl : List (Nat × List Nat)} (F : Fb m S p sd Wl) (h : eqB m m') : Fb m' S p sd Wl := by
  obtain ⟨f1, f2, f3, f4, f5, f6, f7, f8, f9, f10⟩ := F
  refine ⟨?_, ?_, ?_, ?_, ?_, ?_, ?_, ?_, ?_, fun v q O hv => ?_⟩
  · rw [(h 2 4 (by omega)).1, f1]
  · rw [(h 2 5 (by omega)).1, f2]
  · rw [(h 2 6 (by omega)).1, f3]
  · rw [(h 2 8 (by omega)).1, f4]
  · rw [(h 2 9 (by omega)).1, f5]
  · rw [(h 2 10 (by omega)).1, f6]
  · rw [(h 2 11 (by omega)).2, f7]
  · rw [(h 2 12 (by omega)).1, f8]
  · rw [(h 3 5 (by omega)).1, f9]
  · obtain ⟨o1, o2, o3, o4⟩ := f10 v q O hv
    exact ⟨fun i hi => by rw [(h 6 _ (by omega)).1, o1 i hi], fun i x hx => by rw [(h 6 _ (by omega)).1, o2 i x hx], by rw [(h 6 _ (by omega)).1, o3], o4⟩
theorem eqB.i {m : zm} {q j : Nat} {x : Int32} (h : q = 8 ∨ q = 9 ∨ q = 10 ∨ (q = 2 ∧ (j = 3 ∨ j = 7))) : eqB m (zm_wI m q j x) := fun a b hn => by
  rw [pz_rI, pz_rI2, if_neg (fun z => hn (by rw [z.1, z.2]; exact h))]
  exact ⟨rfl, rfl⟩
theorem Hb.i {m : zm} {u : zV} {q j : Nat} {x : Int32} (H : Hb m u) (h : ¬ q = 10) : Hb (zm_wI m q j x) u := by
  unfold Hb at *
  rw [pz_rI, pz_rI, pz_rI, pz_rI2, if_neg (by omega), if_neg (by omega), if_neg (by omega)]
  exact H
theorem w_partOf {v i : Nat} {m : zm} {K : Int32 → zm → Prop} (hv : v < 8) (hi : i < 5) (k : K (m.1 6 (5 * v + i)) m) : j_Splitter_partOf (nI v) (nI i) m K := by
  have ml : ∀ x, x < 8 → ∀ y, y < 5 → nI x * 5 + nI y = nI (5 * x + y) := by decide +kernel
  intro y hy
  rw [ml v hv i hi] at hy
  subst hy
  rw [show (nI (5 * v + i) < 0) = (5 * v + i < 0) from pz_lt (b := 0) (by omega) (by omega), show (Int32.ofNat 40 ≤ nI (5 * v + i)) = (40 ≤ 5 * v + i) from pz_le (a := 40) (by omega) (by omega), nI_clamp (by omega)]
  exact ⟨fun z => by omega, fun _ => ⟨fun z => by omega, fun _ => ⟨pz_in (by omega) (by omega), k⟩⟩⟩
theorem w_lastThere {s : Nat → Nat} {la q last : Nat} {m : zm} {K : Int32 → zm → Prop} (g8 : ∀ i, i < 4 → m.1 8 i = nI (s i) ∧ s i < 136) (g3 : m.1 2 3 = nI q) (hq : q < 34) (g6 : m.1 2 6 = nI last) (hl : last < 34) (g7 : m.1 2 7 = nI la) (h4 : la ≤ 4) (b : Bool) (hb : (b = true) = (if la < 4 then 0 < cin_ (s la) last else q = last)) (k : K (bI b) m) : j_Judge_isLastThere m K := by
  unfold j_Judge_isLastThere
  rw [g7, g3, g6, show ((4 : Int32) ≤ nI la) = (4 ≤ la) from pz_le (a := 4) (by omega) (by omega), pz_eq (by omega) (by omega), nI_clamp (by omega)]
  refine ⟨fun h => ?_, fun h => ⟨pz_in (by omega) (by omega), ?_⟩⟩
  · rw [if_neg (by omega)] at hb
    exact fl_n (X := fun t => j_Judge_isLastThere_L51 K t m) b hb ⟨isB_b b, k⟩
  · rw [(g8 la (by omega)).1]
    have := (g8 la (by omega)).2
    refine w_Shape_countIn (by omega) (by omega) ?_
    rw [if_pos (by omega)] at hb
    rw [show (nI (cin_ (s la) last) ≤ 0) = (cin_ (s la) last ≤ 0) from pz_le (b := 0) (by have := cin_le (s la) last; omega) (by omega)]
    refine fl_p (X := fun t => j_Judge_isLastThere_L51 K t m) b ?_ ⟨isB_b b, k⟩
    refine propext ⟨fun z => ?_, fun z => ?_⟩
    · refine Classical.byContradiction (fun y => ?_)
      have : b = true := hb ▸ (show 0 < cin_ (s la) last by omega)
      rw [z] at this; cases this
    · cases b with
      | false => rfl
      | true => have : 0 < cin_ (s la) last := hb ▸ rfl
                omega
theorem w_L151 {S : zS} {p v q : Nat} {sd : Bool} {O : List Nat} {Wl : List (Nat × List Nat)} {P0 : zV → Prop} {R89 : Int64 → Int32 → zm → Prop} {K : Int32 → zm → Prop} {m0 : zm} (W : Wj S p sd) (hWl : Wl = tA (ec S p sd) 34 0 0 0 none []) (hv : Wl[v]? = some (q, O)) (hv8 : v < 8) (hO : S.1 2 p + O.length = 4)
    (kk : ∀ m' u, Rc m' S m0 → Fb m' S p sd Wl → Hb m' u → Gr (Pq P0 Wl (S.1 2 p) (vq (en_ S p sd) (hb_ S p sd) (tb_ (ac S p sd) (S.1 2 p)) (dor S p (ac S p sd) (S.1 17 0 + 1)) (mf S p) (S.1 2 p)) (lth (til S) (mf S p) (S.1 2 p)) v 5) u → R89 (lY (tb_ (ac S p sd) (S.1 2 p))) (nI (v + 1)) m') :
    ∀ n l m u, l + n = 5 → S.1 2 p ≤ l → Rc m S m0 → Fb m S p sd Wl → Hb m u → (∀ i, i < 4 → m.1 8 i = nI (sQ (mf S p) (S.1 2 p) O i)) → m.1 2 3 = nI q → Gr (Pq P0 Wl (S.1 2 p) (vq (en_ S p sd) (hb_ S p sd) (tb_ (ac S p sd) (S.1 2 p)) (dor S p (ac S p sd) (S.1 17 0 + 1)) (mf S p) (S.1 2 p)) (lth (til S) (mf S p) (S.1 2 p)) v l) u → j_Judge_findBest_L151 R89 K (n + 1) (lY (tb_ (ac S p sd) (S.1 2 p))) (nI v) (nI l) m := by
  intro n
  have hx : (q, O) ∈ tA (ec S p sd) 34 0 0 0 none [] := by rw [← hWl]; exact List.mem_of_getElem? hv
  obtain ⟨V, s136, q34⟩ := W.v hx hO
  have hz := W.z
  have hd : dor S p (ac S p sd) (S.1 17 0 + 1) < 500 := by
    have := dor_le (S := S) (p := p) W.a4 (S.1 17 0 + 1)
    have := W.1.b17 0
    omega
  have b2 := W.1.b2 p
  have b21 := W.1.b21 0
  have b13 := W.1.b13 0
  have t34 : til S < 34 := by unfold til; omega
  induction n with
  | zero =>
    intro l m u hl hw R F H g8 g3 G
    have e : l = 5 := by omega
    subst e
    rw [j_Judge_findBest_L151, show ((4 : Int32) < nI 5) = True from propext ⟨fun _ => trivial, fun _ => by decide⟩]
    refine ⟨fun _ y hy => ?_, fun z => absurd trivial z⟩
    rw [hy, nI_1]
    exact kk m u R F H G
  | succ n ih =>
    intro l m u hl hw R F H g8 g3 G
    rw [j_Judge_findBest_L151, show ((4 : Int32) < nI l) = (4 < l) from pz_lt (a := 4) (by omega) (by omega)]
    refine ⟨fun z => by omega, fun _ m1 h1 => ?_⟩
    have R1 := R.ks h1 (by omega)
    have E1 : eqB m m1 := by rw [h1]; exact eqB.i (by omega)
    have F1 := F.b E1
    have H1 : Hb m1 u := by rw [h1]; exact H.i (by omega)
    have g81 : ∀ i, i < 4 → m1.1 8 i = nI (sQ (mf S p) (S.1 2 p) O i) ∧ sQ (mf S p) (S.1 2 p) O i < 136 := fun i hi => ⟨by rw [h1, pz_rI, if_neg (by omega)]; exact g8 i hi, s136 i hi⟩
    have g31 : m1.1 2 3 = nI q := by rw [h1, pz_rI, if_neg (by omega), g3]
    have g71 : m1.1 2 7 = nI l := by rw [h1, pz_rI, if_pos ⟨rfl, rfl⟩]
    obtain ⟨f1, f2, f3, f4, f5, f6, f7, f8, f9⟩ := F1
    refine w_lastThere g81 g31 q34 f3 t34 g71 (by omega) (bb (lth (til S) (mf S p) (S.1 2 p) (q, O) l)) (propext bb_iff) ?_
    rw [bI_0]
    refine ⟨fun z y hy => ?_, fun z => ?_⟩
    · have nl : ¬ lth (til S) (mf S p) (S.1 2 p) (q, O) l := fun y => by rw [bb_t y] at z; cases z
      rw [hy, nI_1]
      exact ih (l + 1) m1 u (by omega) (by omega) R1 (F.b E1) H1 (fun i hi => (g81 i hi).1) g31 (G.c (Pq_0 hv nl))
    · have yl : lth (til S) (mf S p) (S.1 2 p) (q, O) l := bb_iff.mp (ts_nf z)
      have X : Jx m1 (sQ (mf S p) (S.1 2 p) O) (S.1 2 p) sd l q (til S) (27 + (p + 4 - S.1 12 0) % 4) (27 + S.1 13 0) (bb (cls S p)) := ⟨g81, ⟨g31, q34⟩, ⟨f1, b2⟩, f2, ⟨f3, t34⟩, ⟨g71, by omega⟩, f4, ⟨f5, by omega⟩, ⟨f6, by omega⟩⟩
      refine w_rateSets X V f7 f8 hd hz H1 (fun m2 e2 h2 y hy => ?_)
      rw [hy, nI_1]
      have E2 : eqB m1 m2 := fun a b hn => e2 a b (by omega)
      have eV : vL (bb (cls S p), sd, 27 + (p + 4 - S.1 12 0) % 4, 27 + S.1 13 0, til S) (hb_ S p sd) (tb_ (ac S p sd) (S.1 2 p)) (dor S p (ac S p sd) (S.1 17 0 + 1)) q (lst (xs_ (sQ (mf S p) (S.1 2 p) O) (S.1 2 p) sd l) 4) (la4 (sQ (mf S p) (S.1 2 p) O) l) = vq (en_ S p sd) (hb_ S p sd) (tb_ (ac S p sd) (S.1 2 p)) (dor S p (ac S p sd) (S.1 17 0 + 1)) (mf S p) (S.1 2 p) (q, O) l := by
        unfold vq en_
        rfl
      rw [eV] at h2
      refine ih (l + 1) m2 _ (by omega) (by omega) (R1.keep (fun a b hn => e2 a b (by omega))) ((F.b E1).b E2) h2 (fun i hi => by rw [(e2 8 i (by omega)).1]; exact (g81 i hi).1) (by rw [(e2 2 3 (by omega)).1, g31]) ((Gr.up G).c (Pq_1 hv hw (by omega) yl))
theorem w_L89 {S : zS} {p : Nat} {sd : Bool} {Wl : List (Nat × List Nat)} {P0 : zV → Prop} {K : Int32 → zm → Prop} {m0 : zm} (W : Wj S p sd) (hWl : Wl = tA (ec S p sd) 34 0 0 0 none [])
    (kk : ∀ m' u, Rc m' S m0 → Hb m' u → Gr (Pq P0 Wl (S.1 2 p) (vq (en_ S p sd) (hb_ S p sd) (tb_ (ac S p sd) (S.1 2 p)) (dor S p (ac S p sd) (S.1 17 0 + 1)) (mf S p) (S.1 2 p)) (lth (til S) (mf S p) (S.1 2 p)) Wl.length (S.1 2 p)) u → K (yb u) m') :
    ∀ n v m u, v + n = Wl.length → Rc m S m0 → Fb m S p sd Wl → Hb m u → Gr (Pq P0 Wl (S.1 2 p) (vq (en_ S p sd) (hb_ S p sd) (tb_ (ac S p sd) (S.1 2 p)) (dor S p (ac S p sd) (S.1 17 0 + 1)) (mf S p) (S.1 2 p)) (lth (til S) (mf S p) (S.1 2 p)) v (S.1 2 p)) u → j_Judge_findBest_L89 K (n + 1) (lY (tb_ (ac S p sd) (S.1 2 p))) (nI v) m := by
  have h8 : Wl.length ≤ 8 := by
    rw [hWl]
    have := W.es
    exact ways_8 W.e4 (by omega)
  have b2 := W.1.b2 p
  intro n
  induction n with
  | zero =>
    intro v m u hv R F H G
    have e : v = Wl.length := by omega
    subst e
    obtain ⟨f1, f2, f3, f4, f5, f6, f7, f8, f9, f10⟩ := F
    rw [j_Judge_findBest_L89, f9, show (nI Wl.length ≤ nI Wl.length) = True from propext ⟨fun _ => trivial, fun _ => Int32.le_refl _⟩]
    refine ⟨fun _ => ?_, fun z => absurd trivial z⟩
    have kk' := kk m u R H G
    rcases H with ⟨vv, ⟨h1, h2⟩ | ⟨h1, h2, h3, h4, h5⟩⟩
    · rw [h2, show (lg_cmp 0 0 = 0) = True from propext ⟨fun _ => trivial, fun _ => by decide⟩]
      refine ⟨fun _ => ⟨Or.inl rfl, ?_⟩, fun z => absurd trivial z⟩
      rw [h1] at kk'
      exact kk'
    · rw [h5, pz_cmp0, lN_0 (Nat.lt_trans vv.2.2.2 (by decide))]
      refine ⟨fun z => absurd z h1, fun _ => ⟨Or.inr rfl, ?_⟩⟩
      unfold yb at kk'
      rw [if_neg h1] at kk'
      exact kk'
  | succ n ih =>
    intro v m u hv R F H G
    have F' := F
    obtain ⟨f1, f2, f3, f4, f5, f6, f7, f8, f9, f10⟩ := F
    rw [j_Judge_findBest_L89, f9, show (nI Wl.length ≤ nI v) = (Wl.length ≤ v) from pz_le (by omega) (by omega)]
    refine ⟨fun z => by omega, fun _ => ?_⟩
    obtain ⟨⟨q, O⟩, hx⟩ : ∃ x, Wl[v]? = some x := ⟨_, List.getElem?_eq_getElem (by omega)⟩
    obtain ⟨o1, o2, o3, o4⟩ := f10 v q O hx
    have rd : ∀ i, i < 4 → m.1 6 (5 * v + i) = nI (sQ (mf S p) (S.1 2 p) O i) := fun i hi => by
      by_cases h : i < S.1 2 p
      · rw [sQ_d h]; exact o1 i h
      · have e2 : O[i - S.1 2 p]? = some (O.getD (i - S.1 2 p) 0) := by rw [List.getD_eq_getElem?_getD, List.getElem?_eq_getElem (by omega)]; rfl
        have := o2 (i - S.1 2 p) _ e2
        rw [show S.1 2 p + (i - S.1 2 p) = i by omega] at this
        rw [this]
        unfold sQ
        rw [if_neg h]
    have main : ∀ c i m1, i + c = 4 → Rc m1 S m0 → eqB m m1 → Hb m1 u → (∀ j, j < i → m1.1 8 j = nI (sQ (mf S p) (S.1 2 p) O j)) → j_Judge_findBest_L103 (j_Judge_findBest_L89 K (n + 1)) K (c + 1) (lY (tb_ (ac S p sd) (S.1 2 p))) (nI v) (nI i) m1 := by
      intro c
      induction c with
      | zero =>
        intro i m1 hi R1 E1 H1 g8
        have e : i = 4 := by omega
        subst e
        rw [j_Judge_findBest_L103, show ((4 : Int32) ≤ nI 4) = True from propext ⟨fun _ => trivial, fun _ => by decide⟩]
        refine ⟨fun _ => w_partOf (i := 4) (by omega) (by omega) (fun m2 h2 => ?_), fun z => absurd trivial z⟩
        rw [(E1 6 _ (by omega)).1, o3] at h2
        have E2 : eqB m1 m2 := by rw [h2]; exact eqB.i (by omega)
        have F2 := (F'.b E1).b E2
        intro y hy
        rw [F2.1] at hy
        subst hy
        refine ⟨_, w_L151 W hWl hx (by omega) o4 (fun m' u' R' F' H' G' => ih (v + 1) m' u' (by omega) R' F' H' (G'.c Pq_n)) (5 - S.1 2 p) (S.1 2 p) m2 u (by omega) (by omega) (R1.ks h2 (by omega)) F2 (by rw [h2]; exact H1.i (by omega)) (fun j hj => by rw [h2, pz_rI, if_neg (by omega)]; exact g8 j hj) (by rw [h2, pz_rI, if_pos ⟨rfl, rfl⟩]) G⟩
      | succ c ihc =>
        intro i m1 hi R1 E1 H1 g8
        rw [j_Judge_findBest_L103, show ((4 : Int32) ≤ nI i) = (4 ≤ i) from pz_le (a := 4) (by omega) (by omega)]
        refine ⟨fun z => by omega, fun _ => w_partOf (by omega) (by omega) ⟨pz_in (by omega) (by omega), fun m2 h2 y hy => ?_⟩⟩
        rw [(E1 6 _ (by omega)).1, rd i (by omega), nI_clamp (by omega)] at h2
        have E2 : eqB m1 m2 := by rw [h2]; exact eqB.i (by omega)
        rw [hy, nI_1]
        refine ihc (i + 1) m2 (by omega) (R1.ks h2 (by omega)) (fun a b hn => ⟨(E2 a b hn).1.trans (E1 a b hn).1, (E2 a b hn).2.trans (E1 a b hn).2⟩) (by rw [h2]; exact H1.i (by omega)) (fun j hj => ?_)
        rw [h2, pz_rI]
        by_cases q' : j = i
        · rw [if_pos ⟨rfl, q'⟩, q']
        · rw [if_neg (fun z => q' z.2)]; exact g8 j (by omega)
    exact ⟨_, main 4 0 m rfl R (fun _ _ _ => ⟨rfl, rfl⟩) H (fun j hj => by omega)⟩
def O1 (S : zS) (p : Nat) (sd : Bool) : zV → Prop := fun v => ¬ v.2.2.2 = 0 ∧ (S.1 2 p = 0 ∧ (∀ k, k < 34 → (decide (0 < ec S p sd k)) = out_ k) ∧ v = vy (fun y => hb_ S p sd y || y == 30) (en_ S p sd).1 (dor S p (ac S p sd) (S.1 17 0 + 1)) 30)
def O2 (S : zS) (p : Nat) (sd : Bool) : zV → Prop := fun v => O1 S p sd v ∨ (¬ v.2.2.2 = 0 ∧ (S.1 2 p = 0 ∧ n2_ (ec S p sd) 34 = 7 ∧ v = vy (fun y => hb_ S p sd y || tb_ (ac S p sd) (S.1 2 p) y || y == 26) (en_ S p sd).1 (dor S p (ac S p sd) (S.1 17 0 + 1)) 25))
theorem w_L75 {S : zS} {p : Nat} {sd : Bool} {K : Int32 → zm → Prop} {m m0 : zm} {u : zV} (W : Wj S p sd) (R : Rc m S m0) (J : Sj m S p sd) (H : Hb m u) (G : Gr (O2 S p sd) u) (k : ∀ m' u', Rc m' S m0 → Hb m' u' → Gr (Rdv S p sd) u' → K (yb u') m') : j_Judge_findBest_L75 K m := by
  obtain ⟨⟨l1, l2, l3, l4, l5, l6, l7⟩, j1, j2, j3, j4⟩ := J
  have e4 := W.e4
  have es := W.es
  have b2 := W.1.b2 p
  intro m1 h1 m2 h2
  have fr : ∀ q j, ¬ (q = 3 ∧ (j = 3 ∨ j = 5)) → m2.1 q j = m.1 q j := fun q j hn => by rw [h2, pz_rI, if_neg (fun z => hn ⟨z.1, Or.inr z.2⟩), h1, pz_rI, if_neg (fun z => hn ⟨z.1, Or.inl z.2⟩)]
  have fr2 : m2.2 = m.2 := by rw [h2, pz_rI2, h1, pz_rI2]
  have T := ta_ok (e := ec S p sd) (w := S.1 2 p) (d := mf S p) e4 40 34 0 rfl (by omega)
  refine T 0 0 none [] [] m2 0 _ (Nat.le_refl _) ⟨fun j _ hj => ?_, ?_, ?_, fun i hi => ?_, fun i x hx => by cases hx⟩ ⟨fun _ => Nat.zero_le _, fun _ => Nat.zero_le _, ?_, b2, fun q z => by cases z⟩ ⟨?_, fun v q O hv => by cases hv⟩ ?_ (fun m3 E3 W3 => ?_)
  · rw [fr 4 j (by omega), (l7 j hj).1]
    unfold dlt
    split
    · rfl
    · split <;> rfl
  · rw [fr 3 2 (by omega), l5]; rfl
  · rw [h2, pz_rI, if_neg (by omega), h1, pz_rI, if_pos ⟨rfl, rfl⟩]; rfl
  · rw [fr 5 i (by omega)]; exact l6 i hi
  · have := rm_c (ec S p sd) 34 0
    have e0 : csum (ec S p sd) 0 = 0 := rfl
    have e34 : csum (ec S p sd) (0 + 34) = csum (ec S p sd) 34 := rfl
    show 3 * 0 + 2 * 0 + rm (ec S p sd) 34 0 0 0 = _
    omega
  · rw [h2, pz_rI, if_pos ⟨rfl, rfl⟩]; rfl
  · show 0 + _ ≤ 8
    rw [Nat.zero_add]
    exact ways_8 e4 (by omega)
  · rw [List.nil_append] at W3
    have f3 : ∀ q j, ¬ (q = 3 ∧ (j = 3 ∨ j = 5)) → ¬ q = 5 → ¬ q = 6 → m3.1 q j = m.1 q j := fun q j n1 n2 n3 => by
      rw [E3.1 q j (fun z => n2 z.1) n3 (fun z => n1 ⟨z.1, Or.inr z.2⟩), fr q j n1]
    have f4 : m3.2 = m.2 := E3.2.trans fr2
    have R3 : Rc m3 S m0 := R.keep (fun q j hn => ⟨f3 q j (by omega) (by omega) (by omega), by rw [f4]⟩)
    refine w_yTiles (fun k hk => by rw [f3 7 k (by omega) (by omega) (by omega)]; exact (l7 k hk).2) W.a4 (by rw [f3 2 4 (by omega) (by omega) (by omega), l1]) b2 ?_
    have F3 : Fb m3 S p sd (tA (ec S p sd) 34 0 0 0 none []) := by
      refine ⟨?_, ?_, ?_, ?_, ?_, ?_, ?_, ?_, W3⟩
      · rw [f3 2 4 (by omega) (by omega) (by omega), l1]
      · rw [f3 2 5 (by omega) (by omega) (by omega), l2]
      · rw [f3 2 6 (by omega) (by omega) (by omega), l3]
      · rw [f3 2 8 (by omega) (by omega) (by omega), l4]
      · rw [f3 2 9 (by omega) (by omega) (by omega), j1]
      · rw [f3 2 10 (by omega) (by omega) (by omega), j2]
      · rw [f4, j3]
      · rw [f3 2 12 (by omega) (by omega) (by omega), j4]
    have H3 : Hb m3 u := by
      unfold Hb at H ⊢
      rw [f3 10 0 (by omega) (by omega) (by omega), f3 10 1 (by omega) (by omega) (by omega), f3 10 2 (by omega) (by omega) (by omega), f4]
      exact H
    have hw4 : ∀ x, x ∈ tA (ec S p sd) 34 0 0 0 none [] → S.1 2 p + x.2.length = 4 := fun x hx => by
      obtain ⟨v, hv⟩ := List.getElem?_of_mem hx
      exact (W3.2 v x.1 x.2 hv).2.2.2
    refine ⟨_, w_L89 (P0 := O2 S p sd) W rfl (fun m' u' R' H' G' => k m' u' R' H' (G'.c (fun v => ?_))) (tA (ec S p sd) 34 0 0 0 none []).length 0 m3 u (by omega) R3 F3 H3 (G.c Pq_b)⟩
    rw [Pq_e (Nat.le_refl _)]
    have key := ways_rd (e := ec S p sd) e4 (E := en_ S p sd) (hp := hb_ S p sd) (tl := tb_ (ac S p sd) (S.1 2 p)) (dr := dor S p (ac S p sd) (S.1 17 0 + 1)) (w := S.1 2 p) (d := mf S p) hw4 v
    have kE : (en_ S p sd).2.2.2.2 = til S := rfl
    rw [kE] at key
    rw [key]
    unfold Rdv Rd_ O2 O1
    constructor
    · rintro ((⟨a, b⟩ | ⟨a, b⟩) | ⟨a, b⟩)
      · exact ⟨a, Or.inl b⟩
      · exact ⟨a, Or.inr (Or.inl b)⟩
      · exact ⟨a, Or.inr (Or.inr b)⟩
    · rintro ⟨a, b | b | b⟩
      · exact Or.inl (Or.inl ⟨a, b⟩)
      · exact Or.inl (Or.inr ⟨a, b⟩)
      · exact Or.inr ⟨a, b⟩
