/-! THE TABLE SHOWS THE JUDGE A HAND -/
def eqS (m m' : zm) : Prop := ∀ q j, ¬ (2 ≤ q ∧ q ≤ 10) → m'.1 q j = m.1 q j ∧ m'.2 q j = m.2 q j
theorem eqS.rf {m : zm} : eqS m m := fun _ _ _ => ⟨rfl, rfl⟩
theorem eqS.tr {m m1 m2 : zm} (h1 : eqS m m1) (h2 : eqS m1 m2) : eqS m m2 := fun q j h => ⟨(h2 q j h).1.trans (h1 q j h).1, (h2 q j h).2.trans (h1 q j h).2⟩
theorem Rc.ks {m m' m0 : zm} {S : zS} {q j : Nat} {x : Int32} (R : Rc m S m0) (h : m' = zm_wI m q j x) (hq : 2 ≤ q ∧ q ≤ 10) : Rc m' S m0 := R.keep (fun a b hn => by
  rw [h, pz_rI, pz_rI2, if_neg (by omega)]; exact ⟨rfl, rfl⟩)
theorem Rc.kl {m m' m0 : zm} {S : zS} {q j : Nat} {x : Int64} (R : Rc m S m0) (h : m' = zm_wL m q j x) (hq : 2 ≤ q ∧ q ≤ 10) : Rc m' S m0 := R.keep (fun a b hn => by
  rw [h, pz_rL, pz_rL2, if_neg (by omega)]; exact ⟨rfl, rfl⟩)
/-- n sets v are added behind c sets -/
def adE (m m' : zm) (c n : Nat) (v : Int32) : Prop := (∀ q j, ¬ (q = 5 ∧ c ≤ j ∧ j < c + n) → ¬ (q = 3 ∧ j = 2) → m'.1 q j = m.1 q j) ∧ m'.2 = m.2 ∧ (∀ j, c ≤ j → j < c + n → m'.1 5 j = v) ∧ m'.1 3 2 = nI (c + n)
theorem w_addSets {v : Int32} {c n : Nat} {m : zm} {K : zm → Prop} (g : m.1 3 2 = nI c) (hc : c + n ≤ 4) (k : ∀ m', adE m m' c n v → K m') : j_Splitter_addSets v (nI n) m K := by
  have main : ∀ r i m', i + r = n → adE m m' c i v → j_Splitter_addSets_L2 v (nI n) K (r + 1) (nI i) m' := by
    intro r
    induction r with
    | zero =>
      intro i m' hi A
      have e : i = n := by omega
      subst e
      rw [j_Splitter_addSets_L2, pz_le (by omega) (by omega)]
      exact ⟨fun _ => k m' A, fun z => absurd (by omega) z⟩
    | succ r ih =>
      intro i m' hi A
      obtain ⟨a1, a2, a3, a4⟩ := A
      rw [j_Splitter_addSets_L2, pz_le (by omega) (by omega), a4, show ((4 : Int32) ≤ nI (c + i)) = (4 ≤ c + i) from pz_le (a := 4) (by omega) (by omega), nI_clamp (by omega)]
      refine ⟨fun z => by omega, fun _ => ⟨fun z => by omega, fun _ => ⟨pz_in (by omega) (by omega), fun m1 h1 => ?_⟩⟩⟩
      have e1 : m1.1 3 2 = nI (c + i) := by rw [h1, pz_rI, if_neg (by omega), a4]
      rw [e1, nI_1]
      intro m2 h2 y hy
      rw [hy, nI_1]
      refine ih (i + 1) m2 (by omega) ⟨fun q j n1 n2 => ?_, ?_, fun j j1 j2 => ?_, ?_⟩
      · rw [h2, pz_rI, if_neg (by omega), h1, pz_rI, if_neg (by omega)]
        exact a1 q j (by omega) n2
      · rw [h2, pz_rI2, h1, pz_rI2, a2]
      · rw [h2, pz_rI, if_neg (by omega), h1, pz_rI]
        by_cases q : j = c + i
        · rw [if_pos ⟨rfl, q⟩]
        · rw [if_neg (fun z => q z.2)]
          exact a3 j j1 (by omega)
      · rw [h2, pz_rI, if_pos ⟨rfl, rfl⟩]; rfl
  exact ⟨n + 1, main n 0 m (by omega) ⟨fun _ _ _ _ => rfl, rfl, fun j h1 h2 => by omega, g⟩⟩
theorem w_takeMelds {p : Nat} {m m0 : zm} {S : zS} {K : zm → Prop} (R : Rc m S m0) (B : Bd S) (hp : p < 4) (k : ∀ m', (∀ q j, ¬ (q = 5) → ¬ (q = 3 ∧ j = 2) → m'.1 q j = m.1 q j) → m'.2 = m.2 → (∀ i, i < S.1 2 p → m'.1 5 i = nI (mf S p i)) → m'.1 3 2 = nI (S.1 2 p) → K m') : j_Splitter_takeMelds (13 + 5 * p) m K := by
  have b2 := B.b2 p
  have main : ∀ n i m', i + n = S.1 2 p → (∀ q j, ¬ (q = 5) → ¬ (q = 3 ∧ j = 2) → m'.1 q j = m.1 q j) → m'.2 = m.2 → (∀ j, j < i → m'.1 5 j = nI (mf S p j)) → m'.1 3 2 = nI i → j_Splitter_takeMelds_L7 (13 + 5 * p) K (n + 1) (nI i) m' := by
    intro n
    induction n with
    | zero =>
      intro i m' hi a1 a2 a3 a4
      rw [j_Splitter_takeMelds_L7, a1 (13 + 5 * p) 2 (by omega) (by omega), R.g2 hp, pz_le (by omega) (by omega)]
      refine ⟨fun _ => k m' a1 a2 (fun j hj => a3 j (by omega)) ?_, fun z => absurd (by omega) z⟩
      rw [a4, show i = S.1 2 p by omega]
    | succ n ih =>
      intro i m' hi a1 a2 a3 a4
      rw [j_Splitter_takeMelds_L7, a1 (13 + 5 * p) 2 (by omega) (by omega), R.g2 hp, pz_le (by omega) (by omega), nI_clamp (by omega), a1 (13 + 5 * p + 2) i (by omega) (by omega), R.g3 hp (by omega)]
      refine ⟨fun z => by omega, fun _ => ⟨pz_in (by omega) (by omega), w_addSets (n := 1) a4 (by omega) (fun m2 A y hy => ?_)⟩⟩
      obtain ⟨c1, c2, c3, c4⟩ := A
      rw [hy, nI_1]
      refine ih (i + 1) m2 (by omega) (fun q j n1 n2 => ?_) (c2.trans a2) (fun j hj => ?_) c4
      · rw [c1 q j (by omega) n2]; exact a1 q j n1 n2
      · by_cases q : j = i
        · rw [q]; exact c3 i (by omega) (by omega)
        · rw [c1 5 j (by omega) (by omega)]; exact a3 j (by omega)
  intro m1 h1
  refine ⟨_, main (S.1 2 p) 0 m1 (by omega) (fun q j n1 n2 => ?_) ?_ (fun j hj => by omega) ?_⟩
  · rw [h1, pz_rI, if_neg n2]
  · rw [h1, pz_rI2]
  · rw [h1, pz_rI, if_pos ⟨rfl, rfl⟩]; rfl
theorem isB_b (b : Bool) : zm_isB (bI b) := by
  cases b
  · exact Or.inl rfl
  · exact Or.inr rfl
/-- what lookAt leaves -/
def Lk (m : zm) (S : zS) (p : Nat) (sd : Bool) : Prop := m.1 2 4 = nI (S.1 2 p) ∧ m.1 2 5 = bI (bb (cls S p)) ∧ m.1 2 6 = nI (til S) ∧ m.1 2 8 = bI sd ∧ m.1 3 2 = nI (S.1 2 p) ∧ (∀ i, i < S.1 2 p → m.1 5 i = nI (mf S p i)) ∧ ∀ k, k < 34 → m.1 4 k = nI (ec S p sd k) ∧ m.1 7 k = nI (ac S p sd k)
theorem w_lookAt {p : Nat} {sd : Bool} {m m0 : zm} {S : zS} {K : zm → Prop} (R : Rc m S m0) (B : Bd S) (hp : p < 4) (k : ∀ m', Rc m' S m0 → eqS m m' → Lk m' S p sd → K m') : j_Judge_lookAt (13 + 5 * p) (nI (til S)) (bI sd) m K := by
  have b2 := B.b2 p
  have b21 := B.b21 0
  have til34 : til S < 34 := by unfold til; omega
  intro m1 h1
  refine ⟨isB_b sd, fun m2 h2 => ?_⟩
  have R1 := R.ks h1 (by omega)
  have R2 := R1.ks h2 (by omega)
  rw [R2.g2 hp]
  intro m3 h3
  have R3 := R2.ks h3 (by omega)
  have cont : ∀ b, b = bb (cls S p) → (zm_isB (bI b) ∧ (∀ m6 : zm, m6 = zm_wI m3 2 5 (bI b) → (j_Splitter_takeMelds (13 + 5 * p) m6 (fun m7 => (∃ n37, j_Judge_lookAt_L37 (13 + 5 * p) (nI (til S)) (bI sd) K n37 0 m7))))) := by
    intro b hb
    refine ⟨isB_b b, fun m6 h6 => ?_⟩
    have R6 := R3.ks h6 (by omega)
    refine w_takeMelds R6 B hp (fun m7 f1 f2 f3 f4 => ?_)
    have fr0 : ∀ q j, ¬ (2 ≤ q ∧ q ≤ 10) → m7.1 q j = m.1 q j ∧ m7.2 q j = m.2 q j := fun q j hq => by
      rw [f1 q j (by omega) (by omega), f2, h6, pz_rI, pz_rI2, if_neg (by omega), h3, pz_rI, pz_rI2, if_neg (by omega), h2, pz_rI, pz_rI2, if_neg (by omega), h1, pz_rI, pz_rI2, if_neg (by omega)]
      exact ⟨rfl, rfl⟩
    have R7 : Rc m7 S m0 := R.keep fr0
    have g4 : m7.1 2 4 = nI (S.1 2 p) := by rw [f1 2 4 (by omega) (by omega), h6, pz_rI, if_neg (by omega), h3, pz_rI, if_pos ⟨rfl, rfl⟩]
    have g5 : m7.1 2 5 = bI b := by rw [f1 2 5 (by omega) (by omega), h6, pz_rI, if_pos ⟨rfl, rfl⟩]
    have g6 : m7.1 2 6 = nI (til S) := by rw [f1 2 6 (by omega) (by omega), h6, pz_rI, if_neg (by omega), h3, pz_rI, if_neg (by omega), h2, pz_rI, if_neg (by omega), h1, pz_rI, if_pos ⟨rfl, rfl⟩]
    have g8 : m7.1 2 8 = bI sd := by rw [f1 2 8 (by omega) (by omega), h6, pz_rI, if_neg (by omega), h3, pz_rI, if_neg (by omega), h2, pz_rI, if_pos ⟨rfl, rfl⟩]
    have main : ∀ n i m', i + n = 34 → (∀ q j, ¬ (q = 4 ∨ q = 7) → m'.1 q j = m7.1 q j ∧ m'.2 q j = m7.2 q j) → (∀ k, k < i → m'.1 4 k = nI (ec S p sd k) ∧ m'.1 7 k = nI (ac S p sd k)) → j_Judge_lookAt_L37 (13 + 5 * p) (nI (til S)) (bI sd) K (n + 1) (nI i) m' := by
      intro n
      induction n with
      | zero =>
        intro i m' hi fr ar
        have e : i = 34 := by omega
        subst e
        rw [j_Judge_lookAt_L37, show ((34 : Int32) ≤ nI 34) = True from propext ⟨fun _ => trivial, fun _ => by decide⟩]
        refine ⟨fun _ => k m' ?_ ?_ ⟨?_, ?_, ?_, ?_, ?_, fun i hi => ?_, ar⟩, fun z => absurd trivial z⟩
        · exact R7.keep (fun q j hq => fr q j (by omega))
        · exact fun q j hq => ⟨((fr q j (by omega)).1).trans (fr0 q j hq).1, ((fr q j (by omega)).2).trans (fr0 q j hq).2⟩
        · rw [(fr 2 4 (by omega)).1, g4]
        · rw [(fr 2 5 (by omega)).1, g5, hb]
        · rw [(fr 2 6 (by omega)).1, g6]
        · rw [(fr 2 8 (by omega)).1, g8]
        · rw [(fr 3 2 (by omega)).1, f4]
        · rw [(fr 5 i (by omega)).1, f3 i hi]
      | succ n ih =>
        intro i m' hi fr ar
        have hi34 : i < 34 := by omega
        have Rm : Rc m' S m0 := R7.keep (fun q j hq => fr q j (by omega))
        have b1 := B.b1 (34 * p + i)
        have l66 : ∀ t : Nat, t = (if sd = false ∧ i = til S then 1 else 0) → j_Judge_lookAt_L66 (13 + 5 * p) (nI (til S)) (bI sd) (j_Judge_lookAt_L37 (13 + 5 * p) (nI (til S)) (bI sd) K (n + 1)) K (nI i) (nI t) (nI (S.1 1 (34 * p + i))) m' := by
          intro t ht
          unfold j_Judge_lookAt_L66
          rw [nI_add, nI_clamp (by omega)]
          have ee : ec S p sd i = S.1 1 (34 * p + i) + t := by unfold ec; rw [cf_at hi34, ht]
          rw [← ee]
          intro y8 hy8
          subst hy8
          refine ⟨pz_in hi34 (by omega), fun m9 h9 => ?_⟩
          have R9 := Rm.ks h9 (by omega)
          have inner : ∀ r j, j + r = S.1 2 p → j_Judge_lookAt_L84 (13 + 5 * p) (nI (til S)) (bI sd) (j_Judge_lookAt_L37 (13 + 5 * p) (nI (til S)) (bI sd) K (n + 1)) K (r + 1) (nI i) (nI (ec S p sd i + msum (mf S p) i j)) (nI j) m9 := by
            intro r
            induction r with
            | zero =>
              intro j hj
              rw [j_Judge_lookAt_L84, R9.g2 hp, pz_le (by omega) (by omega), nI_clamp (by omega)]
              refine ⟨fun _ => ⟨pz_in hi34 (by omega), fun m10 h10 y hy => ?_⟩, fun z => absurd (by omega) z⟩
              rw [hy, nI_1]
              have ea : ac S p sd i = ec S p sd i + msum (mf S p) i j := by
                rw [show j = S.1 2 p by omega]
                unfold ac ec own_
                omega
              refine ih (i + 1) m10 (by omega) (fun q z hq => ?_) (fun z hz => ?_)
              · rw [h10, pz_rI, pz_rI2, if_neg (by omega), h9, pz_rI, pz_rI2, if_neg (by omega)]
                exact fr q z hq
              · by_cases q : z = i
                · subst q
                  refine ⟨?_, ?_⟩
                  · rw [h10, pz_rI, if_neg (by omega), h9, pz_rI, if_pos ⟨rfl, rfl⟩]
                  · rw [h10, pz_rI, if_pos ⟨rfl, rfl⟩, ea]
                · refine ⟨?_, ?_⟩
                  · rw [h10, pz_rI, if_neg (by omega), h9, pz_rI, if_neg (by omega)]
                    exact (ar z (by omega)).1
                  · rw [h10, pz_rI, if_neg (by omega), h9, pz_rI, if_neg (by omega)]
                    exact (ar z (by omega)).2
            | succ r ihr =>
              intro j hj
              have b3 := B.b3 (4 * p + j)
              rw [j_Judge_lookAt_L84, R9.g2 hp, pz_le (by omega) (by omega), nI_clamp (show j < 2 ^ 31 by omega), R9.g3 hp (by omega)]
              refine ⟨fun z => by omega, fun _ => ⟨pz_in (by omega) (by omega), w_Shape_countIn (by omega) (by omega) (fun y14 hy14 y15 hy15 => ?_)⟩⟩
              rw [hy14, hy15, nI_1, nI_add, Nat.add_assoc]
              have := ihr (j + 1) (by omega)
              rw [msum] at this
              exact this
          exact ⟨_, inner (S.1 2 p) 0 (by omega)⟩
        rw [j_Judge_lookAt_L37, show ((34 : Int32) ≤ nI i) = (34 ≤ i) from pz_le (a := 34) (by omega) (by omega), pz_eq (by omega) (by omega), nI_clamp (by omega), Rm.g1 hp hi34, bI_0]
        refine ⟨fun z => by omega, fun _ => ⟨pz_in hi34 (by omega), fun h => l66 0 ?_, fun h => ⟨fun hs => l66 0 ?_, fun hs => l66 1 ?_⟩⟩⟩
        · rw [if_neg (fun z => h z.2)]
        · rw [if_neg (fun z => hs z.1)]
        · rw [if_pos ⟨hs, h⟩]
    exact ⟨35, main 34 0 m7 (by omega) (fun _ _ _ => ⟨rfl, rfl⟩) (fun k hk => by omega)⟩
  exact w_closed R3 B hp (fun z => cont true (bb_t z).symm) (fun z => cont false (bb_f z).symm)
