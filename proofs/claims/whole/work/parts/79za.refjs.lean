/-! THE REFERENCE RATES A WAY -/
def eqX (m m' : zm) : Prop := ∀ q j, ¬ ((52 ≤ q ∧ q ≤ 55) ∨ (q = 33 ∧ 39 ≤ j)) → m'.1 q j = m.1 q j ∧ m'.2 q j = m.2 q j
theorem eqX.rf {m : zm} : eqX m m := fun _ _ _ => ⟨rfl, rfl⟩
theorem eqX.tr {m m1 m2 : zm} (h1 : eqX m m1) (h2 : eqX m1 m2) : eqX m m2 := fun q j h => ⟨(h2 q j h).1.trans (h1 q j h).1, (h2 q j h).2.trans (h1 q j h).2⟩
theorem eqX.i {m : zm} {q j : Nat} {x : Int32} (h : (52 ≤ q ∧ q ≤ 55) ∨ (q = 33 ∧ 39 ≤ j)) : eqX m (zm_wI m q j x) := fun a b hn => by
  rw [pz_rI, pz_rI2, if_neg (fun z => hn (by rw [z.1, z.2]; exact h))]
  exact ⟨rfl, rfl⟩
theorem eqX.F {m m' : zm} (h : eqX m m') : eqF m m' := fun q j hn => h q j (fun z => hn (by
  rcases z with z | z
  · exact Or.inl (by omega)
  · exact Or.inr (by omega)))
theorem eqK.X {m m' : zm} (h : eqK m m') : eqX m m' := fun q j hn => h q j (fun z => hn (Or.inr (by omega)))
theorem eqA.X {m m' : zm} (h : eqA m m') : eqX m m' := fun q j hn => h q j (fun z => hn (by
  rcases z with z | z
  · exact Or.inl z
  · exact Or.inr (by omega)))
/-- what stays while ways are rated -/
def Fr (m : zm) (S : zS) (m0 : zm) (p : Nat) (sd : Bool) : Prop := Rr m S m0 ∧ m.1 33 32 = nI p ∧ m.1 33 33 = nI (til S) ∧ m.1 33 34 = bI sd ∧ (∀ k, k < 34 → m.1 50 k = nI (ec S p sd k)) ∧ ∀ k, k < 34 → m.1 51 k = nI (ac S p sd k)
theorem Fr.x {m m' m0 : zm} {S : zS} {p : Nat} {sd : Bool} (F : Fr m S m0 p sd) (h : eqX m m') : Fr m' S m0 p sd := by
  obtain ⟨f1, f2, f3, f4, f5, f6⟩ := F
  refine ⟨f1.keep h.F, ?_, ?_, ?_, fun k hk => ?_, fun k hk => ?_⟩
  · rw [(h 33 32 (by omega)).1, f2]
  · rw [(h 33 33 (by omega)).1, f3]
  · rw [(h 33 34 (by omega)).1, f4]
  · rw [(h 50 k (by omega)).1]; exact f5 k hk
  · rw [(h 51 k (by omega)).1]; exact f6 k hk
theorem Hq.i {m : zm} {u : zV} {q j : Nat} {x : Int32} (H : Hq m u) (h : ¬ (q = 33 ∧ 46 ≤ j)) : Hq (zm_wI m q j x) u := by
  unfold Hq at *
  rw [pz_rI, pz_rI, pz_rI, pz_rI2, if_neg (by omega), if_neg (by omega), if_neg (by omega)]
  exact H
theorem Hq.A {m m' : zm} {u : zV} (H : Hq m u) (h : eqA m m') : Hq m' u := by
  unfold Hq at *
  rw [(h 33 46 (by rintro (z | z) <;> omega)).1, (h 33 47 (by rintro (z | z) <;> omega)).1, (h 33 48 (by rintro (z | z) <;> omega)).1, (h 33 49 (by rintro (z | z) <;> omega)).2]
  exact H
def aa (c : Nat) : Option Nat := if c = 0 then none else some (c - 1)
theorem c_le : ∀ w, w < 5 → ∀ c, c < 6 → (nI w ≤ nI c - 1) = (w + 1 ≤ c) := by decide +kernel
theorem c_up : ∀ c, c < 6 → nI c - 1 + 1 = nI (c + 1) - 1 := by decide +kernel
theorem w_addR {a1 a2 : Int32} {c : Nat} {m : zm} {K : zm → Prop} (g : m.1 33 39 = nI c) (hc : c < 8) (k : ∀ m', (∀ q j, ¬ ((q = 53 ∨ q = 54 ∨ q = 55) ∧ j = c) → ¬ (q = 33 ∧ j = 39) → m'.1 q j = m.1 q j) → m'.2 = m.2 → m'.1 54 c = a1 → m'.1 53 c = a2 → m'.1 33 39 = nI (c + 1) → K m') : j_Model_add a1 a2 m K := by
  unfold j_Model_add
  rw [g, nI_clamp (by omega)]
  refine ⟨pz_in (by omega) (by omega), fun m1 h1 => ?_⟩
  rw [show m1.1 33 39 = nI c by rw [h1, pz_rI, if_neg (by omega), g], nI_clamp (by omega)]
  refine ⟨pz_in (by omega) (by omega), fun m2 h2 => ?_⟩
  rw [show m2.1 33 39 = nI c by rw [h2, pz_rI, if_neg (by omega), h1, pz_rI, if_neg (by omega), g], nI_clamp (by omega)]
  refine ⟨pz_in (by omega) (by omega), fun m3 h3 m4 h4 => ?_⟩
  rw [show m3.1 33 39 = nI c by rw [h3, pz_rI, if_neg (by omega), h2, pz_rI, if_neg (by omega), h1, pz_rI, if_neg (by omega), g], nI_1] at h4
  refine k m4 (fun q j n1 n2 => ?_) ?_ ?_ ?_ ?_
  · rw [h4, pz_rI, if_neg n2, h3, pz_rI, if_neg (by omega), h2, pz_rI, if_neg (by omega), h1, pz_rI, if_neg (by omega)]
  · rw [h4, pz_rI2, h3, pz_rI2, h2, pz_rI2, h1, pz_rI2]
  · rw [h4, pz_rI, if_neg (by omega), h3, pz_rI, if_neg (by omega), h2, pz_rI, if_neg (by omega), h1, pz_rI, if_pos ⟨rfl, rfl⟩]
  · rw [h4, pz_rI, if_neg (by omega), h3, pz_rI, if_neg (by omega), h2, pz_rI, if_pos ⟨rfl, rfl⟩]
  · rw [h4, pz_rI, if_pos ⟨rfl, rfl⟩]
def Pm (P0 : zV → Prop) (last pr : Nat) (O : List (Nat × Nat)) (val : Option Nat → zV) (c : Nat) : zV → Prop := fun v => P0 v ∨ (¬ v.2.2.2 = 0 ∧ ∃ i, i < c ∧ at_ last pr O (aa i) ∧ v = val (aa i))
theorem w_judgeSetsR {S : zS} {p pr dr w : Nat} {sd : Bool} {hp tl : Nat → Bool} {O : List (Nat × Nat)} {P0 : zV → Prop} {u : zV} {m m0 : zm} {K : zm → Prop} (W : Wj S p sd) (F : Fr m S m0 p sd) (hw : w = S.1 2 p) (hw4 : O.length + w = 4) (hO : ∀ x, x ∈ O → x.1 < 3 ∧ x.2 < 34) (s : setsOk m O) (g40 : m.1 33 40 = nI O.length) (g44 : m.1 33 44 = nI pr) (hpr : pr < 34) (hdr : dr = dor S p (ac S p sd) (S.1 17 0 + 1)) (H : Hq m u) (G : Gr P0 u) (kk : ∀ m' u', eqX m m' → m'.1 33 44 = nI pr → Hq m' u' → Gr (Pm P0 (til S) pr O (vw_ (en_ S p sd) hp tl dr (mf S p) w O pr) (O.length + 1)) u' → K m') : j_Model_judgeSets (lY (fun j => hp j || tl j)) m K := by
  have W' := W
  obtain ⟨B, M, _, hp4, h21, _⟩ := W
  have b2 := B.b2 p
  have b21 := B.b21 0
  have t34 : til S < 34 := by unfold til; omega
  have hd136 : ∀ i, mf S p i < 136 := fun i => (mf_ok B M p i).1
  have hd : dr < 500 := by
    have := dor_le (S := S) (p := p) W'.a4 (S.1 17 0 + 1)
    have := B.b17 0
    omega
  have lp112 : ∀ n c m1 u1, c + n = O.length + 1 → eqX m m1 → m1.1 33 40 = nI O.length → m1.1 33 44 = nI pr → Ja m1 O (mf S p) w → m1.1 33 45 = nI c - 1 → Hq m1 u1 → Gr (Pm P0 (til S) pr O (vw_ (en_ S p sd) hp tl dr (mf S p) w O pr) c) u1 → j_Model_judgeSets_L112 (lY (fun j => hp j || tl j)) K (n + 1) m1 := by
    intro n
    induction n with
    | zero =>
      intro c m1 u1 hc E g40 g44 A g45 H1 G1
      have e : c = O.length + 1 := by omega
      subst e
      rw [j_Model_judgeSets_L112, g40, g45, c_le _ (by omega) _ (by omega)]
      exact ⟨fun _ => kk m1 u1 E g44 H1 G1, fun z => absurd (Nat.le_refl _) z⟩
    | succ n ih =>
      intro c m1 u1 hc E g40 g44 A g45 H1 G1
      have F1 := F.x E
      have l259 : ∀ m2 u2, eqK m1 m2 → Hq m2 u2 → Gr (Pm P0 (til S) pr O (vw_ (en_ S p sd) hp tl dr (mf S p) w O pr) (c + 1)) u2 → j_Model_judgeSets_L259 (lY (fun j => hp j || tl j)) (j_Model_judgeSets_L112 (lY (fun j => hp j || tl j)) K (n + 1)) K m2 := by
        intro m2 u2 e2 H2 G2 m3 h3
        rw [(e2 33 45 (by omega)).1, g45, c_up c (by omega)] at h3
        refine ih (c + 1) m3 u2 (by omega) ((E.tr e2.X).tr (by rw [h3]; exact eqX.i (by omega))) ?_ ?_ ⟨fun i x hx => ?_, fun j hj => ?_⟩ ?_ (by rw [h3]; exact H2.i (by omega)) G2
        · rw [h3, pz_rI, if_neg (by omega), (e2 33 40 (by omega)).1, g40]
        · rw [h3, pz_rI, if_neg (by omega), (e2 33 44 (by omega)).1, g44]
        · rw [h3, pz_rI, pz_rI, pz_rI, if_neg (by omega), if_neg (by omega), if_neg (by omega), (e2 54 i (by omega)).1, (e2 53 i (by omega)).1, (e2 55 i (by omega)).1]
          exact A.1 i x hx
        · rw [h3, pz_rI, pz_rI, pz_rI, if_neg (by omega), if_neg (by omega), if_neg (by omega), (e2 54 _ (by omega)).1, (e2 53 _ (by omega)).1, (e2 55 _ (by omega)).1]
          exact A.2 j hj
        · rw [h3, pz_rI, if_pos ⟨rfl, rfl⟩]
      have ao : atOk m1 (aa c) := by
        by_cases q : c = 0
        · refine Or.inl ⟨if_pos q, ?_⟩
          rw [g45, q]; rfl
        · refine Or.inr ⟨c - 1, by omega, ?_, if_neg q⟩
          rw [g45]
          have := nI_pred (c - 1)
          rw [show c - 1 + 1 = c by omega] at this
          exact this
      have ly : lst (yA sd (aa c) O (mf S p)) 4 = tg_ sd (aa c) O ++ mg_ (mf S p) w := by rw [← hw4]; exact lst_yA sd (aa c) O (mf S p) w
      have hla : (la_ O (aa c) = none ∧ m1.1 33 45 = -1) ∨ ∃ i, i < 4 ∧ m1.1 33 45 = nI i ∧ la_ O (aa c) = some ((yA sd (aa c) O (mf S p) i).1, (yA sd (aa c) O (mf S p) i).2.1) := by
        rcases ao with ⟨e1, e2⟩ | ⟨i, hi, e1, e2⟩
        · exact Or.inl ⟨by rw [e1]; rfl, e2⟩
        · have hiO : i < O.length := by
            unfold aa at e2
            split at e2
            · cases e2
            · injection e2 with e2
              omega
          refine Or.inr ⟨i, hi, e1, ?_⟩
          rw [e2]
          show O[i]? = _
          rw [getD_s hiO]
          unfold yA
          rw [if_pos hiO]
      have J : Jz m1 S m0 p sd (yA sd (aa c) O (mf S p)) pr (la_ O (aa c)) := ⟨A.r hw4 hO hd136 sd (aa c), F1.1, F1.2.1, F1.2.2.1, F1.2.2.2.1, ⟨g44, hpr⟩, hla, fun i hi K' k' => w_closedSetR A hw4 F1.2.2.2.1 g40 ao hi k'⟩
      have go : ∀ b, b = bb (at_ (til S) pr O (aa c)) → j_Model_judgeSets_L224 (lY (fun j => hp j || tl j)) (j_Model_judgeSets_L112 (lY (fun j => hp j || tl j)) K (n + 1)) K (bI b) m1 := by
        intro b hb
        cases b with
        | false =>
          have hn : ¬ at_ (til S) pr O (aa c) := fun z => by rw [bb_t z] at hb; cases hb
          refine ⟨fun _ => l259 m1 u1 eqK.rf H1 (G1.c (fun v => ?_)), fun z => absurd rfl z⟩
          constructor
          · rintro (z | ⟨z, i, h1, h2⟩)
            · exact Or.inl z
            · exact Or.inr ⟨z, i, by omega, h2⟩
          · rintro (z | ⟨z, i, h1, h2⟩)
            · exact Or.inl z
            · by_cases q : i = c
              · rw [q] at h2; exact absurd h2.1 hn
              · exact Or.inr ⟨z, i, by omega, h2⟩
        | true =>
          have hy := bb_iff.mp hb.symm
          refine w_readR J B M hp4 F1.2.2.2.2.2 hdr hd H1 (fun m2 e2 H2 => ?_)
          have ev : vL (en_ S p sd) hp tl dr pr (lst (yA sd (aa c) O (mf S p)) 4) (la_ O (aa c)) = vw_ (en_ S p sd) hp tl dr (mf S p) w O pr (aa c) := by
            rw [ly, vw_L]
            rfl
          rw [ev] at H2
          refine l259 m2 _ e2 H2 ((Gr.up G1).c (fun v => ?_))
          constructor
          · rintro ((z | ⟨z, i, h1, h2⟩) | ⟨z1, z2⟩)
            · exact Or.inl z
            · exact Or.inr ⟨z, i, by omega, h2⟩
            · exact Or.inr ⟨by rw [z1]; exact z2, c, by omega, hy, z1⟩
          · rintro (z | ⟨z, i, h1, h2, h3⟩)
            · exact Or.inl (Or.inl z)
            · by_cases q : i = c
              · rw [q] at h3
                exact Or.inr ⟨h3, by rw [← h3]; exact z⟩
              · exact Or.inl (Or.inr ⟨z, i, by omega, h2, h3⟩)
      rw [j_Model_judgeSets_L112, g40, g45, c_le _ (by omega) _ (by omega)]
      refine ⟨fun z => by omega, fun _ => ?_⟩
      rw [g44, F1.2.2.1]
      rcases (show c = 0 ∨ ∃ i, c = i + 1 from by
        by_cases q : c = 0
        · exact Or.inl q
        · exact Or.inr ⟨c - 1, by omega⟩) with q | ⟨i, q⟩
      · subst q
        rw [show ((0 : Int32) ≤ nI 0 - 1) = False from propext ⟨fun z => absurd z (by decide), fun z => z.elim⟩, pz_eq (by omega) (by omega)]
        refine ⟨fun z => z.elim, fun _ => ?_⟩
        have ha : bb (at_ (til S) pr O (aa 0)) = bb (pr = til S) := rfl
        rw [ha] at go
        exact ⟨fun h => go false (bb_f h).symm, fun h => go true (bb_t h).symm⟩
      · subst q
        have hiO : i < O.length := by omega
        have e := getD_s hiO
        obtain ⟨a1, a2, a3⟩ := A.1 i _ e
        have hm := hO _ (List.mem_of_getElem? e)
        generalize O.getD i (0, 0) = x at e a1 a2 hm
        rw [show nI (i + 1) - 1 = nI i from nI_pred i, nI_clamp (by omega), a1, a2, show ((0 : Int32) ≤ nI i) = True from propext ⟨fun _ => trivial, fun _ => nI_pos' (by omega)⟩, show (nI x.1 = 0) = (x.1 = 0) from pz_eq (b := 0) (by omega) (by omega), pz_eq (by omega) (by omega), pz_lt (by omega) (by omega), show nI x.2 + 2 = nI (x.2 + 2) from nI_add x.2 2, pz_lt (by omega) (by omega)]
        have ha : at_ (til S) pr O (aa (i + 1)) ↔ ins_ (til S) x := by
          have : aa (i + 1) = some i := rfl
          rw [this]
          constructor
          · rintro ⟨z, h1, h2⟩
            rw [e] at h1
            injection h1 with h1
            rw [h1]; exact h2
          · exact fun h => ⟨x, e, h⟩
        rw [bb_eq ha] at go
        unfold ins_ at go
        refine ⟨fun _ => ⟨pz_in (by omega) (by omega), fun h => ⟨pz_in (by omega) (by omega), fun h2 => go false ?_, fun h2 => go true ?_⟩, fun h => ⟨pz_in (by omega) (by omega), fun h2 => go false ?_, fun h2 => ⟨pz_in (by omega) (by omega), fun h3 => go false ?_, fun h3 => go true ?_⟩⟩⟩, fun z => absurd trivial z⟩
        · rw [if_neg h]; exact (bb_f h2).symm
        · rw [if_neg h]; exact (bb_t h2).symm
        · rw [if_pos h]; exact (bb_f (by omega)).symm
        · rw [if_pos h]; exact (bb_f (by omega)).symm
        · rw [if_pos h]; exact (bb_t (by omega)).symm
  have lp18 : ∀ n j m1, j + n = w → eqX m m1 → m1.1 33 40 = nI O.length → m1.1 33 44 = nI pr → m1.1 33 39 = nI (O.length + j) → Ja m1 O (mf S p) j → Hq m1 u → j_Model_judgeSets_L18 (lY (fun j => hp j || tl j)) K (n + 1) (nI p) (nI (4 * p + j)) m1 := by
    intro n
    induction n with
    | zero =>
      intro j m1 hj E g40 g44 g39 A H1
      have e : j = w := by omega
      subst e
      have F1 := F.x E
      rw [j_Model_judgeSets_L18, nI_clamp (by omega), F1.1.g2 hp4, ← hw, pz_4, show (nI (4 * p + j) ≤ nI (4 * p + j)) = True from propext ⟨fun _ => trivial, fun _ => Int32.le_refl _⟩]
      refine ⟨pz_in (by omega) (by omega), fun _ m2 h2 => ⟨_, lp112 (O.length + 1) 0 m2 u (by omega) (E.tr (by rw [h2]; exact eqX.i (by omega))) ?_ ?_ ⟨fun i x hx => ?_, fun i hi => ?_⟩ ?_ (by rw [h2]; exact H1.i (by omega)) (G.c (fun v => ?_))⟩, fun z => absurd trivial z⟩
      · rw [h2, pz_rI, if_neg (by omega), g40]
      · rw [h2, pz_rI, if_neg (by omega), g44]
      · rw [h2, pz_rI, pz_rI, pz_rI, if_neg (by omega), if_neg (by omega), if_neg (by omega)]
        exact A.1 i x hx
      · rw [h2, pz_rI, pz_rI, pz_rI, if_neg (by omega), if_neg (by omega), if_neg (by omega)]
        exact A.2 i hi
      · rw [h2, pz_rI, if_pos ⟨rfl, rfl⟩]; rfl
      · exact ⟨fun z => Or.inl z, fun z => z.elim id (fun ⟨_, i, h, _⟩ => by omega)⟩
    | succ n ih =>
      intro j m1 hj E g40 g44 g39 A H1
      have F1 := F.x E
      have mk := M (4 * p + j)
      have emf : S.1 3 (4 * p + j) = mf S p j := rfl
      rw [emf] at mk
      have d1 := hd136 j
      have g22 : m1.1 38 (4 * p + j) = nI (mf S p j / 4) := by rw [F1.1.g22 (by omega), mk.1]
      have g23 : m1.1 39 (4 * p + j) = nI (mf S p j % 4) := by rw [F1.1.g23 (by omega), mk.2.1]
      rw [j_Model_judgeSets_L18, nI_clamp (by omega), nI_clamp (by omega), F1.1.g2 hp4, ← hw, pz_4, pz_le (by omega) (by omega), g23, show (nI (mf S p j % 4) = 0) = (mf S p j % 4 = 0) from pz_eq (b := 0) (by omega) (by omega), show (nI (mf S p j % 4) = 1) = (mf S p j % 4 = 1) from pz_eq (b := 1) (by omega) (by omega)]
      have l64 : ∀ t, t = fm (mf S p j) → j_Model_judgeSets_L64 (lY (fun j => hp j || tl j)) (j_Model_judgeSets_L18 (lY (fun j => hp j || tl j)) K (n + 1)) K (nI p) (nI (4 * p + j)) (nI t) m1 := by
        intro t ht
        unfold j_Model_judgeSets_L64
        rw [nI_clamp (by omega), g22]
        refine ⟨pz_in (by omega) (by omega), w_addR g39 (by omega) (fun m2 f1 f2 f3 f4 f5 => ⟨pz_in (by omega) (by omega), ?_⟩)⟩
        have l100 : ∀ b, b = !(mf S p j % 4 == 3) → j_Model_judgeSets_L100 (lY (fun j => hp j || tl j)) (j_Model_judgeSets_L18 (lY (fun j => hp j || tl j)) K (n + 1)) K (nI p) (nI (4 * p + j)) (bI b) (nI (O.length + j)) m2 := by
          intro b hb
          refine ⟨pz_in (by omega) (by omega), isB_b b, fun m3 h3 z hz => ?_⟩
          rw [nI_clamp (by omega)] at h3
          rw [hz, nI_1, show 4 * p + j + 1 = 4 * p + (j + 1) by omega]
          have E3 : eqX m1 m3 := fun q i hn => by
            rw [h3, pz_rI, pz_rI2, if_neg (by omega), f1 q i (by omega) (by omega), f2]
            exact ⟨rfl, rfl⟩
          refine ih (j + 1) m3 (by omega) (E.tr E3) ?_ ?_ ?_ ⟨fun i x hx => ?_, fun i hi => ?_⟩ ?_
          · rw [h3, pz_rI, if_neg (by omega), f1 33 40 (by omega) (by omega), g40]
          · rw [h3, pz_rI, if_neg (by omega), f1 33 44 (by omega) (by omega), g44]
          · rw [h3, pz_rI, if_neg (by omega), f5]; rfl
          · have := gO_ltg hx
            rw [h3, pz_rI, pz_rI, pz_rI, if_neg (by omega), if_neg (by omega), if_neg (by omega), f1 54 i (by omega) (by omega), f1 53 i (by omega) (by omega), f1 55 i (by omega) (by omega)]
            exact A.1 i x hx
          · by_cases q : i = j
            · subst q
              rw [h3, pz_rI, pz_rI, pz_rI, if_neg (by omega), if_neg (by omega), if_pos ⟨rfl, rfl⟩, f3, f4, ht, hb]
              exact ⟨rfl, rfl, rfl⟩
            · rw [h3, pz_rI, pz_rI, pz_rI, if_neg (by omega), if_neg (by omega), if_neg (by omega), f1 54 _ (by omega) (by omega), f1 53 _ (by omega) (by omega), f1 55 _ (by omega) (by omega)]
              exact A.2 i (by omega)
          · rw [h3]
            refine Hq.i ?_ (by omega)
            unfold Hq at H1 ⊢
            rw [f1 33 46 (by omega) (by omega), f1 33 47 (by omega) (by omega), f1 33 48 (by omega) (by omega), f2]
            exact H1
        rw [f1 39 _ (by omega) (by omega), g23, f5, nI_pred, show (nI (mf S p j % 4) = 3) = (mf S p j % 4 = 3) from pz_eq (b := 3) (by omega) (by omega)]
        refine ⟨fun h => l100 false ?_, fun h => l100 true ?_⟩
        · rw [show (mf S p j % 4 == 3) = true from beq_p.symm ▸ h]; rfl
        · rw [show (mf S p j % 4 == 3) = false from beq_f.symm ▸ h]; rfl
      refine ⟨pz_in (by omega) (by omega), fun z => by omega, fun _ => ⟨pz_in (by omega) (by omega), fun h => ⟨pz_in (by omega) (by omega), fun h2 => l64 2 ?_, fun h2 => l64 1 ?_⟩, fun h => l64 0 ?_⟩⟩
      · unfold fm; rw [if_neg h, if_neg h2]
      · unfold fm; rw [if_neg h, if_pos h2]
      · unfold fm; rw [if_pos h]
  intro y1 hy1 m2 h2 y3 hy3
  rw [F.2.1] at hy1
  rw [hy1, pz_4m] at hy3
  rw [g40] at h2
  rw [hy1, hy3]
  refine ⟨_, lp18 w 0 m2 (by omega) (by rw [h2]; exact eqX.i (by omega)) ?_ ?_ ?_ ⟨fun i x hx => ?_, fun j hj => by omega⟩ (by rw [h2]; exact H.i (by omega))⟩
  · rw [h2, pz_rI, if_neg (by omega), g40]
  · rw [h2, pz_rI, if_neg (by omega), g44]
  · rw [h2, pz_rI, if_pos ⟨rfl, rfl⟩]; rfl
  · rw [h2, pz_rI, pz_rI, pz_rI, if_neg (by omega), if_neg (by omega), if_neg (by omega)]
    exact s.2 i x hx
