/-! THE RECURSION -/
def rm (e : Nat → Nat) : Nat → Nat → Nat → Nat → Nat
  | 0, _, _, _ => 0
  | n + 1, k, a, b => (e k - a) + rm e n (k + 1) b 0
theorem rm_r {e : Nat → Nat} {n k b r : Nat} (h : runOk e k b r) (hk : k + (n + 1) = 34) : rm e n (k + 1) b 0 = rm e n (k + 1) (b + r) r + 2 * r := by
  rcases h with h | ⟨h1, h2, h3, h4⟩
  · subst h; rfl
  · obtain ⟨n', e'⟩ : ∃ n', n = n' + 2 := ⟨n - 2, by omega⟩
    subst e'
    rw [rm, rm, rm, rm, show k + 1 + 1 = k + 2 from rfl]
    omega
def pn (pr : Option Nat) : Nat := match pr with
  | none => 0
  | some _ => 1
def Ic (e : Nat → Nat) (w n k a b : Nat) (pr : Option Nat) (O : List Nat) : Prop := (0 < n → a ≤ e k) ∧ (1 < n → b ≤ e (k + 1)) ∧ 3 * O.length + 2 * pn pr + rm e n k a b = 3 * (4 - w) + 2 ∧ w ≤ 4 ∧ ∀ q, pr = some q → q < 34
def rmv (m : zm) (k : Nat) (x : Int32) : zm := if x = 0 then m else zm_wI (zm_wI m 4 (k + 1) (m.1 4 (k + 1) - x)) 4 (k + 2) (m.1 4 (k + 2) - x)
theorem w_remove {k : Nat} {x : Int32} {m : zm} {K : zm → Prop} (hk : k < 34) (h : x = 0 ∨ k + 2 < 34) (kk : K (rmv m k x)) : j_Splitter_removeBehind (nI k) x m K := by
  unfold j_Splitter_removeBehind j_Splitter_removeBehind_L36
  rw [nI_2, nI_1, show ((34 : Int32) ≤ nI (k + 2)) = (34 ≤ k + 2) from pz_le (a := 34) (by omega) (by omega), nI_clamp (by omega), nI_clamp (by omega)]
  unfold rmv at kk
  refine ⟨fun z => by rw [if_pos z] at kk; exact kk, fun z => ⟨fun q => ?_, fun q => ⟨pz_in (by omega) (by omega), pz_in (by omega) (by omega), fun m1 h1 => ?_⟩⟩⟩
  · rcases h with h | h
    · exact absurd h z
    · omega
  · rw [if_neg z] at kk
    rw [show m1.1 4 (k + 2) = m.1 4 (k + 2) from by rw [h1, pz_rI, if_neg (by omega)]]
    refine ⟨pz_in (by omega) (by omega), pz_in (by omega) (by omega), fun m2 h2 => ?_⟩
    rw [h2, h1]
    exact kk
theorem rmv_1 (m : zm) (k : Nat) (x : Int32) (q j : Nat) : (rmv m k x).1 q j = if q = 4 ∧ (j = k + 1 ∨ j = k + 2) then m.1 q j - x else m.1 q j := by
  unfold rmv
  by_cases z : x = 0
  · rw [if_pos z, z]
    split
    · rw [Int32.sub_zero]
    · rfl
  · rw [if_neg z, pz_rI]
    by_cases h2 : q = 4 ∧ j = k + 2
    · rw [if_pos h2, if_pos ⟨h2.1, Or.inr h2.2⟩, h2.1, h2.2]
    · rw [if_neg h2, pz_rI]
      by_cases h1 : q = 4 ∧ j = k + 1
      · rw [if_pos h1, if_pos ⟨h1.1, Or.inl h1.2⟩, h1.1, h1.2]
      · rw [if_neg h1, if_neg (fun y => by rcases y.2 with y2 | y2; exact h1 ⟨y.1, y2⟩; exact h2 ⟨y.1, y2⟩)]
theorem rmv_2 (m : zm) (k : Nat) (x : Int32) : (rmv m k x).2 = m.2 := by
  unfold rmv
  split <;> rfl
def TAok (TA : Int32 → Int32 → zm → (zm → Prop) → Prop) (e : Nat → Nat) (w : Nat) (d : Nat → Nat) (n k : Nat) : Prop := ∀ (a b : Nat) (pr : Option Nat) (O : List Nat) (Wl : List (Nat × List Nat)) (m : zm) (dp : Nat) (K : zm → Prop), dp ≤ k → St m e w d k a b pr O → Ic e w n k a b pr O → Ws m w d Wl → Wl.length + (tA e n k a b pr O).length ≤ 8 → (∀ m', eqW m m' (w + O.length) → Ws m' w d (Wl ++ tA e n k a b pr O) → K m') → TA (nI k) (nI dp) m K
theorem tp_y : ∀ c, c < 5 → ∀ T, T < 2 → ∀ P, P < 2 → ((3 * T + 2 * P ≤ c → nI c - 3 * nI T - 2 * nI P = nI (c - (3 * T + 2 * P))) ∧ (¬ 3 * T + 2 * P ≤ c → nI c - 3 * nI T - 2 * nI P < 0)) := by decide +kernel
theorem pI_m {pr : Option Nat} (h : ∀ q, pr = some q → q < 34) : (pI pr = -1) = (pr = none) := by
  cases pr with
  | none => exact propext ⟨fun _ => rfl, fun _ => rfl⟩
  | some q =>
    refine propext ⟨fun z => ?_, fun z => by cases z⟩
    have := nI_pos' (show q < 2 ^ 31 by have := h q rfl; omega)
    have z : nI q = -1 := z
    rw [z] at this
    exact absurd this (by decide)
theorem gO_app {O : List Nat} {v n i x : Nat} (h : (O ++ List.replicate n v)[i]? = some x) : (O[i]? = some x) ∨ (O.length ≤ i ∧ i < O.length + n ∧ x = v) := by
  by_cases q : i < O.length
  · rw [List.getElem?_append_left q] at h
    exact Or.inl h
  · rw [List.getElem?_append_right (by omega)] at h
    refine Or.inr ?_
    have : i - O.length < n := by
      refine Classical.byContradiction (fun z => ?_)
      rw [List.getElem?_eq_none (by rw [List.length_replicate]; omega)] at h
      cases h
    rw [List.getElem?_replicate_of_lt this] at h
    injection h with h
    exact ⟨by omega, by omega, h.symm⟩
theorem gO_lt {O : List Nat} {i x : Nat} (h : O[i]? = some x) : i < O.length := by
  refine Classical.byContradiction (fun z => ?_)
  rw [List.getElem?_eq_none (by omega)] at h
  cases h
theorem w_tryParts {TA : Int32 → Int32 → zm → (zm → Prop) → Prop} {e : Nat → Nat} {w n k a b T P dp : Nat} {d : Nat → Nat} {pr : Option Nat} {O : List Nat} {Wl : List (Nat × List Nat)} {m : zm} {K : zm → Prop} (he : ∀ j, e j ≤ 4) (hTA : TAok TA e w d n (k + 1)) (hk : k + (n + 1) = 34) (hT : T < 2) (hP : P < 2) (hdp : dp ≤ k) (S : St m e w d k a b pr O) (I : Ic e w (n + 1) k a b pr O) (W : Ws m w d Wl) (h8 : Wl.length + (br e n k a b pr O T P).length ≤ 8) (kk : ∀ m', eqW m m' (w + O.length) → Ws m' w d (Wl ++ br e n k a b pr O T P) → K m') : j_Splitter_tryParts TA (nI k) (nI T) (nI P) (nI dp) m K := by
  have S' := S
  obtain ⟨s1, s2, s3, s4, s5⟩ := S
  obtain ⟨i1, i2, i3, i4, i5⟩ := I
  have ek := he k
  have hak := i1 (by omega)
  have d0 : dlt k a b k = a := by unfold dlt; rw [if_pos rfl]
  have c5 : e k - a < 5 := by omega
  have none : ¬ (3 * T + 2 * P ≤ e k - a ∧ (P = 1 → pr = none) ∧ runOk e k b (e k - a - (3 * T + 2 * P))) → j_Splitter_tryParts_L44 TA (nI k) (nI T) (nI P) (nI dp) K m := by
    intro h
    refine kk m ⟨fun _ _ _ _ _ => rfl, rfl⟩ ?_
    rw [br, if_neg (fun z => h (bb_iff.mp z)), List.append_nil]
    exact W
  unfold j_Splitter_tryParts
  rw [nI_clamp (by omega), s1 k (Nat.le_refl _) (by omega), d0]
  refine ⟨pz_in (by omega) (by omega), fun y1 hy1 => ?_⟩
  obtain ⟨t1, t2⟩ := tp_y (e k - a) c5 T hT P hP
  by_cases hc : ¬ 3 * T + 2 * P ≤ e k - a
  · rw [← hy1] at t2
    exact ⟨fun _ => none (fun z => hc z.1), fun z => absurd (t2 hc) z⟩
  have hc : 3 * T + 2 * P ≤ e k - a := Classical.not_not.mp hc
  rw [t1 hc] at hy1
  subst hy1
  rw [show (nI P = 1) = (P = 1) from pz_eq (b := 1) (by omega) (by omega), s3, pI_m i5]
  have l34 : (P = 1 → pr = Option.none) → j_Splitter_tryParts_L34 TA (nI k) (nI T) (nI P) (nI dp) K (nI (e k - a - (3 * T + 2 * P))) m := by
    intro hp
    unfold j_Splitter_tryParts_L34
    generalize hr : e k - a - (3 * T + 2 * P) = r at *
    refine w_hasRuns (by omega) he (by omega) s1 (fun z => i2 (by omega)) (fun ok => ⟨fun _ y4 hy4 y5 hy5 => ?_, fun z => absurd z (by decide)⟩) (fun no => ⟨fun z => absurd rfl z, fun _ => none (fun z => no z.2.2)⟩)
    have hbr : br e n k a b pr O T P = tA e n (k + 1) (b + r) r (if P = 1 then some k else pr) ((O ++ List.replicate T (4 * k + 1)) ++ List.replicate r (4 * k)) := by
      rw [br, hr, if_pos (bb_t ⟨hc, hp, ok⟩)]
    rw [hbr] at h8 kk
    have rmr := rm_r ok hk
    rw [rm] at i3
    have hpn : pn (if P = 1 then some k else pr) = pn pr + P := by
      by_cases q : P = 1
      · rw [if_pos q, hp q, q]; rfl
      · rw [if_neg q, show P = 0 by omega]; rfl
    have len : ((O ++ List.replicate T (4 * k + 1)) ++ List.replicate r (4 * k)).length = O.length + T + r := by
      rw [List.length_append, List.length_append, List.length_replicate, List.length_replicate]
    have tot : 3 * (O.length + T + r) + 2 * (pn pr + P) + rm e n (k + 1) (b + r) r = 3 * (4 - w) + 2 := by omega
    have hr2 : nI r = 0 ∨ k + 2 < 34 := by
      rcases ok with q | q
      · rw [q]; exact Or.inl rfl
      · exact Or.inr (by omega)
    have l67 : ∀ m2, (∀ q j, ¬ (q = 3 ∧ j = 3) → m2.1 q j = m.1 q j) → m2.2 = m.2 → m2.1 3 3 = pI (if P = 1 then some k else pr) → j_Splitter_tryParts_L67 TA (nI k) (nI T) (nI P) (nI dp) K (nI r) y4 y5 m2 := by
      intro m2 f1 f2 f3
      unfold j_Splitter_tryParts_L67
      rw [show (4 : Int32) * nI k + 1 = nI (4 * k + 1) from pz_4 k 1, show (4 : Int32) * nI k + 0 = nI (4 * k) from pz_4 k 0, nI_1, nI_1]
      refine w_addSets (c := w + O.length) (by rw [f1 3 2 (by omega)]; exact s2) (by omega) (fun m3 A => ?_)
      obtain ⟨a1, a2, a3, a4⟩ := A
      refine w_addSets (c := w + O.length + T) a4 (by omega) (fun m4 A => ?_)
      obtain ⟨b1, b2, b3, b4⟩ := A
      refine w_remove (by omega) hr2 ?_
      have m4t : ∀ j, m4.1 4 j = m.1 4 j := fun j => by rw [b1 4 j (by omega) (by omega), a1 4 j (by omega) (by omega), f1 4 j (by omega)]
      have m5o : ∀ q j, ¬ q = 4 → (rmv m4 k (nI r)).1 q j = m4.1 q j := fun q j hq => by rw [rmv_1, if_neg (fun z => hq z.1)]
      have S5 : St (rmv m4 k (nI r)) e w d (k + 1) (b + r) r (if P = 1 then some k else pr) ((O ++ List.replicate T (4 * k + 1)) ++ List.replicate r (4 * k)) := by
        refine ⟨fun j j1 j2 => ?_, ?_, ?_, fun i hi => ?_, fun i x hx => ?_⟩
        · rw [rmv_1, m4t, s1 j (by omega) j2]
          have ej := he j
          unfold dlt
          by_cases q1 : j = k + 1
          · subst q1
            rw [if_pos ⟨rfl, Or.inl rfl⟩, if_neg (by omega), if_pos rfl, if_pos rfl]
            have b1 := i2 (by omega)
            rcases ok with q | q
            · subst q
              rw [Nat.add_zero]
              exact Int32.sub_zero _
            · rw [sb_136 (by omega), show e (k + 1) - b - r = e (k + 1) - (b + r) by omega]
          · by_cases q2 : j = k + 2
            · subst q2
              rw [if_pos ⟨rfl, Or.inr rfl⟩, if_neg (by omega), if_neg (by omega), if_neg (by omega), if_pos rfl]
              rcases ok with q | q
              · subst q
                exact Int32.sub_zero _
              · rw [sb_136 (by omega), show e (k + 2) - 0 - r = e (k + 2) - r by omega]
            · rw [if_neg (fun z => by rcases z.2 with z | z; exact q1 z; exact q2 z), if_neg (by omega), if_neg (by omega), if_neg (by omega), if_neg (by omega)]
        · rw [m5o 3 2 (by omega), b4, len]
          congr 1
          omega
        · rw [m5o 3 3 (by omega), b1 3 3 (by omega) (by omega), a1 3 3 (by omega) (by omega), f3]
        · rw [m5o 5 i (by omega), b1 5 i (by omega) (by omega), a1 5 i (by omega) (by omega), f1 5 i (by omega)]
          exact s4 i hi
        · rw [m5o 5 _ (by omega)]
          rcases gO_app hx with hx | ⟨x1, x2, x3⟩
          · rcases gO_app hx with hx | ⟨x1, x2, x3⟩
            · have := gO_lt hx
              rw [b1 5 _ (by omega) (by omega), a1 5 _ (by omega) (by omega), f1 5 _ (by omega)]
              exact s5 i x hx
            · rw [b1 5 _ (by omega) (by omega), a3 _ (by omega) (by omega), x3]
          · rw [List.length_append, List.length_replicate] at x1 x2
            rw [b3 _ (by omega) (by omega), x3]
      have I5 : Ic e w n (k + 1) (b + r) r (if P = 1 then some k else pr) ((O ++ List.replicate T (4 * k + 1)) ++ List.replicate r (4 * k)) := by
        refine ⟨fun z => ?_, fun z => ?_, ?_, i4, fun q hq => ?_⟩
        · have := i2 (by omega)
          rcases ok with q | q <;> omega
        · rcases ok with q | q
          · omega
          · show r ≤ e (k + 2); omega
        · rw [len, hpn]; exact tot
        · by_cases z : P = 1
          · rw [if_pos z] at hq
            injection hq with hq
            omega
          · rw [if_neg z] at hq
            exact i5 q hq
      have W5 : Ws (rmv m4 k (nI r)) w d Wl := by
        obtain ⟨w1, w2⟩ := W
        have g6 : ∀ j, (rmv m4 k (nI r)).1 6 j = m.1 6 j := fun j => by rw [m5o 6 j (by omega), b1 6 j (by omega) (by omega), a1 6 j (by omega) (by omega), f1 6 j (by omega)]
        refine ⟨?_, fun v q O' hv => ?_⟩
        · rw [m5o 3 5 (by omega), b1 3 5 (by omega) (by omega), a1 3 5 (by omega) (by omega), f1 3 5 (by omega)]; exact w1
        · obtain ⟨o1, o2, o3, o4⟩ := w2 v q O' hv
          exact ⟨fun i hi => by rw [g6]; exact o1 i hi, fun i x hx => by rw [g6]; exact o2 i x hx, by rw [g6]; exact o3, o4⟩
      refine hTA (b + r) r _ _ Wl _ (dp + 1) _ (by omega) S5 I5 W5 h8 (fun m6 E6 W6 => ?_)
      rw [len] at E6
      refine w_remove (by omega) (by
        rcases hr2 with q | q
        · rw [q]; exact Or.inl rfl
        · exact Or.inr q) ?_
      intro m8 h8' m9 h9
      have t6 : ∀ j, m6.1 4 j = (rmv m4 k (nI r)).1 4 j := fun j => E6.1 4 j (by omega) (by omega) (by omega)
      have back : ∀ j, (rmv m6 k (-nI r)).1 4 j = m.1 4 j := fun j => by
        rw [rmv_1, t6, rmv_1, m4t]
        by_cases q : 4 = 4 ∧ (j = k + 1 ∨ j = k + 2)
        · rw [if_pos q, if_pos q, Int32.sub_neg, Int32.sub_add_cancel]
        · rw [if_neg q, if_neg q]
      refine kk m9 ⟨fun q j n1 n2 n3 => ?_, ?_⟩ ?_
      · rw [h9, pz_rI]
        by_cases q33 : q = 3 ∧ j = 3
        · rw [if_pos q33, hy4, q33.1, q33.2]
        · rw [if_neg q33, h8', pz_rI]
          by_cases q32 : q = 3 ∧ j = 2
          · rw [if_pos q32, hy5, q32.1, q32.2]
          · rw [if_neg q32]
            by_cases q4 : q = 4
            · rw [q4]; exact back j
            · rw [rmv_1, if_neg (fun z => q4 z.1), E6.1 q j (by omega) n2 n3, m5o q j q4, b1 q j (by omega) q32, a1 q j (by omega) q32, f1 q j q33]
      · rw [h9, pz_rI2, h8', pz_rI2, rmv_2, E6.2, rmv_2, b2, a2, f2]
      · obtain ⟨w1, w2⟩ := W6
        have g : ∀ q j, ¬ q = 4 → ¬ (q = 3 ∧ j = 2) → ¬ (q = 3 ∧ j = 3) → m9.1 q j = m6.1 q j := fun q j z1 z2 z3 => by
          rw [h9, pz_rI, if_neg z3, h8', pz_rI, if_neg z2, rmv_1, if_neg (fun z => z1 z.1)]
        refine ⟨?_, fun v q O' hv => ?_⟩
        · rw [g 3 5 (by omega) (by omega) (by omega)]; exact w1
        · obtain ⟨o1, o2, o3, o4⟩ := w2 v q O' hv
          exact ⟨fun i hi => by rw [g 6 _ (by omega) (by omega) (by omega)]; exact o1 i hi, fun i x hx => by rw [g 6 _ (by omega) (by omega) (by omega)]; exact o2 i x hx, by rw [g 6 _ (by omega) (by omega) (by omega)]; exact o3, o4⟩
    rw [show (nI P = 1) = (P = 1) from pz_eq (b := 1) (by omega) (by omega)]
    refine ⟨fun q => l67 m (fun _ _ _ => rfl) rfl (by rw [if_neg q]; exact s3), fun q m6 h6 => l67 m6 (fun q' j hn => ?_) ?_ ?_⟩
    · rw [h6, pz_rI, if_neg hn]
    · rw [h6, pz_rI2]
    · rw [h6, pz_rI, if_pos ⟨rfl, rfl⟩, if_pos q]; rfl
  refine ⟨fun z => absurd z (nI_n0 (by omega)), fun _ => ⟨fun q => l34 (fun z => absurd z q), fun q => ⟨fun z => none (fun y => z (y.2.1 q)), fun z => l34 (fun _ => z)⟩⟩⟩
theorem ta_ok {e : Nat → Nat} {w : Nat} {d : Nat → Nat} (he : ∀ j, e j ≤ 4) : ∀ f n k, k + n = 34 → n + 1 ≤ f → TAok (j_Splitter_takeApart f) e w d n k := by
  intro f
  induction f with
  | zero => intro n k _ h; omega
  | succ f ih =>
    intro n k hk hf a b pr O Wl m dp K hdp S I W h8 kk
    show j_Splitter_takeApart_b (j_Splitter_takeApart f) (nI k) (nI dp) m K
    have main : ∀ n' k' a' b', k' + n' = 34 → k ≤ k' → n' ≤ n → St m e w d k' a' b' pr O → Ic e w n' k' a' b' pr O → tA e n' k' a' b' pr O = tA e n k a b pr O → j_Splitter_takeApart_L2 (j_Splitter_takeApart f) (nI k) (nI dp) K (n' + 1) (nI k') m := by
      intro n'
      induction n' with
      | zero =>
        intro k' a' b' hk' hkk hn S I hA
        have e34 : k' = 34 := by omega
        subst e34
        rw [j_Splitter_takeApart_L2, show ((34 : Int32) ≤ nI 34) = True from propext ⟨fun _ => trivial, fun _ => by decide⟩]
        refine ⟨fun _ => ?_, fun z => absurd trivial z⟩
        unfold j_Splitter_takeApart_L23
        rw [show (nI 34 < (34 : Int32)) = False from propext ⟨fun z => absurd z (by decide), fun z => z.elim⟩]
        refine ⟨fun z => z.elim, fun _ => ?_⟩
        obtain ⟨s1, s2, s3, s4, s5⟩ := S
        obtain ⟨i1, i2, i3, i4, i5⟩ := I
        rw [rm] at i3
        cases pr with
        | none =>
          exfalso
          have : pn none = 0 := rfl
          omega
        | some q =>
          have p1 : pn (some q) = 1 := rfl
          have hO : w + O.length = 4 := by omega
          rw [← hA] at h8 kk
          refine w_keepWay (w := w) (d := d) (O := O) (Wl := Wl) (by rw [s2, hO]) s3 (i5 q rfl) s4 s5 hO W ?_ (fun m' E' W' => kk m' ?_ W')
          · have : (tA e 0 34 a' b' (some q) O).length = 1 := rfl
            omega
          · rw [hO]; exact E'
      | succ n' ihn =>
        intro k' a' b' hk' hkk hn S I hA
        have S' := S
        have I' := I
        obtain ⟨s1, s2, s3, s4, s5⟩ := S
        obtain ⟨i1, i2, i3, i4, i5⟩ := I
        have ek := he k'
        have hak := i1 (by omega)
        have d0 : dlt k' a' b' k' = a' := by unfold dlt; rw [if_pos rfl]
        rw [j_Splitter_takeApart_L2, show ((34 : Int32) ≤ nI k') = (34 ≤ k') from pz_le (a := 34) (by omega) (by omega), nI_clamp (by omega), s1 k' (Nat.le_refl _) (by omega), d0, pz_0 (by omega)]
        refine ⟨fun z => by omega, fun _ => ⟨pz_in (by omega) (by omega), fun hc => ?_, fun hc y hy => ?_⟩⟩
        · unfold j_Splitter_takeApart_L23
          rw [show (nI k' < (34 : Int32)) = (k' < 34) from pz_lt (b := 34) (by omega) (by omega), show ((34 : Int32) ≤ nI dp) = (34 ≤ dp) from pz_le (a := 34) (by omega) (by omega)]
          refine ⟨fun _ => ⟨fun z => by omega, fun _ => ⟨5, ?_⟩⟩, fun z => absurd (by omega) z⟩
          have hTA := ih n' (k' + 1) (by omega) (by omega)
          rw [tA_br] at hA
          rw [← hA] at h8 kk
          simp only [List.length_append] at h8
          have stp : ∀ (c T P : Nat) (m1 : zm) (W1 : List (Nat × List Nat)) (G : zm → Prop), c = 2 * T + P → T < 2 → P < 2 → eqW m m1 (w + O.length) → Ws m1 w d W1 → W1.length + (br e n' k' a' b' pr O T P).length ≤ 8 → (∀ m', eqW m m' (w + O.length) → Ws m' w d (W1 ++ br e n' k' a' b' pr O T P) → G m') → j_Splitter_tryParts (j_Splitter_takeApart f) (nI k') (nI c / 2) (nI c - nI c / 2 * 2) (nI dp) m1 G := by
            intro c T P m1 W1 G hc hT hP E1 V1 l8 kk
            rw [pz_rem2 (by omega), pz_div2 (by omega), show c / 2 = T by omega, show c % 2 = P by omega]
            exact w_tryParts he hTA (by omega) hT hP (by omega) (S'.w E1) I' V1 l8 (fun m' E' V' => kk m' (E1.tr E') V')
          have one : ∀ (x : Int32) (y : Nat) (n : Nat) (m : zm), (∀ y4 : Int32, y4 = x + 1 → (j_Splitter_takeApart_L43 (j_Splitter_takeApart f) (nI k) (nI dp) K n (nI k') y4 m)) ↔ j_Splitter_takeApart_L43 (j_Splitter_takeApart f) (nI k) (nI dp) K n (nI k') (x + 1) m := fun x y n m => ⟨fun h => h _ rfl, fun h y4 hy4 => by rw [hy4]; exact h⟩
          rw [j_Splitter_takeApart_L43]
          refine ⟨fun z => absurd z (by decide), fun _ => ?_⟩
          refine stp 0 0 0 m Wl _ rfl (by omega) (by omega) ⟨fun _ _ _ _ _ => rfl, rfl⟩ W (by omega) (fun m1 E1 V1 y hy => ?_)
          rw [hy, j_Splitter_takeApart_L43]
          refine ⟨fun z => absurd z (by decide), fun _ => ?_⟩
          refine stp 1 0 1 m1 _ _ rfl (by omega) (by omega) E1 V1 (by rw [List.length_append]; omega) (fun m2 E2 V2 y hy => ?_)
          rw [hy, j_Splitter_takeApart_L43]
          refine ⟨fun z => absurd z (by decide), fun _ => ?_⟩
          refine stp 2 1 0 m2 _ _ rfl (by omega) (by omega) E2 V2 (by rw [List.length_append, List.length_append]; omega) (fun m3 E3 V3 y hy => ?_)
          rw [hy, j_Splitter_takeApart_L43]
          refine ⟨fun z => absurd z (by decide), fun _ => ?_⟩
          refine stp 3 1 1 m3 _ _ rfl (by omega) (by omega) E3 V3 (by rw [List.length_append, List.length_append, List.length_append]; omega) (fun m4 E4 V4 y hy => ?_)
          rw [hy, j_Splitter_takeApart_L43]
          refine ⟨fun _ => kk m4 E4 ?_, fun z => absurd (by decide) z⟩
          simp only [List.append_assoc] at V4
          exact V4
        · rw [hy, nI_1]
          have hs : tA e (n' + 1) k' a' b' pr O = tA e n' (k' + 1) b' 0 pr O := tA_skip hc
          refine ihn (k' + 1) b' 0 (by omega) (by omega) (by omega) ⟨fun j j1 j2 => ?_, s2, s3, s4, s5⟩ ⟨fun z => i2 (by omega), fun _ => Nat.zero_le _, ?_, i4, i5⟩ (by rw [← hA, hs])
          · rw [s1 j (by omega) j2]
            unfold dlt
            by_cases q : j = k' + 1
            · rw [if_neg (by omega), if_pos q, if_pos q]
            · rw [if_neg (by omega), if_neg q, if_neg q]
              split <;> rfl
          · rw [rm, hc] at i3
            omega
    exact ⟨n + 1, main n k a b hk (Nat.le_refl _) (Nat.le_refl _) S I rfl⟩
