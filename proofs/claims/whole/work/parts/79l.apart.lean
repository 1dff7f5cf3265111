/-! A HAND IS TAKEN APART BY THE TABLE -/
def runOk (e : Nat → Nat) (k b r : Nat) : Prop := r = 0 ∨ (k < 27 ∧ k % 9 ≤ 6 ∧ b + r ≤ e (k + 1) ∧ r ≤ e (k + 2))
/-- all ways, as the table finds them: kinds from k on, a and b tiles of k and k + 1 taken by runs -/
noncomputable def tA (e : Nat → Nat) : Nat → Nat → Nat → Nat → Option Nat → List Nat → List (Nat × List Nat)
  | 0, _, _, _, pr, O => match pr with
    | none => []
    | some q => [(q, O)]
  | n + 1, k, a, b, pr, O =>
    (if bb (0 ≤ e k - a ∧ runOk e k b (e k - a)) = true then tA e n (k + 1) (b + (e k - a)) (e k - a) pr (O ++ List.replicate (e k - a) (4 * k)) else []) ++
    ((if bb (2 ≤ e k - a ∧ pr = none ∧ runOk e k b (e k - a - 2)) = true then tA e n (k + 1) (b + (e k - a - 2)) (e k - a - 2) (some k) (O ++ List.replicate (e k - a - 2) (4 * k)) else []) ++
    ((if bb (3 ≤ e k - a ∧ runOk e k b (e k - a - 3)) = true then tA e n (k + 1) (b + (e k - a - 3)) (e k - a - 3) pr ((O ++ [4 * k + 1]) ++ List.replicate (e k - a - 3) (4 * k)) else []) ++
    (if bb (5 ≤ e k - a ∧ pr = none ∧ runOk e k b (e k - a - 5)) = true then tA e n (k + 1) (b + (e k - a - 5)) (e k - a - 5) (some k) ((O ++ [4 * k + 1]) ++ List.replicate (e k - a - 5) (4 * k)) else [])))
/-- one choice of it -/
noncomputable def br (e : Nat → Nat) (n k a b : Nat) (pr : Option Nat) (O : List Nat) (T P : Nat) : List (Nat × List Nat) := if bb (3 * T + 2 * P ≤ e k - a ∧ (P = 1 → pr = none) ∧ runOk e k b (e k - a - (3 * T + 2 * P))) = true then tA e n (k + 1) (b + (e k - a - (3 * T + 2 * P))) (e k - a - (3 * T + 2 * P)) (if P = 1 then some k else pr) ((O ++ List.replicate T (4 * k + 1)) ++ List.replicate (e k - a - (3 * T + 2 * P)) (4 * k)) else []
theorem tA_br (e : Nat → Nat) (n k a b : Nat) (pr : Option Nat) (O : List Nat) : tA e (n + 1) k a b pr O = br e n k a b pr O 0 0 ++ (br e n k a b pr O 0 1 ++ (br e n k a b pr O 1 0 ++ br e n k a b pr O 1 1)) := by
  have e0 : bb (3 * 0 + 2 * 0 ≤ e k - a ∧ (0 = 1 → pr = none) ∧ runOk e k b (e k - a - (3 * 0 + 2 * 0))) = bb (0 ≤ e k - a ∧ runOk e k b (e k - a)) := bb_eq ⟨fun ⟨h1, _, h3⟩ => ⟨Nat.zero_le _, h3⟩, fun ⟨h1, h2⟩ => ⟨Nat.zero_le _, fun z => by omega, h2⟩⟩
  have e1 : bb (3 * 0 + 2 * 1 ≤ e k - a ∧ (1 = 1 → pr = none) ∧ runOk e k b (e k - a - (3 * 0 + 2 * 1))) = bb (2 ≤ e k - a ∧ pr = none ∧ runOk e k b (e k - a - 2)) := bb_eq ⟨fun ⟨h1, h2, h3⟩ => ⟨h1, h2 rfl, h3⟩, fun ⟨h1, h2, h3⟩ => ⟨h1, fun _ => h2, h3⟩⟩
  have e2 : bb (3 * 1 + 2 * 0 ≤ e k - a ∧ (0 = 1 → pr = none) ∧ runOk e k b (e k - a - (3 * 1 + 2 * 0))) = bb (3 ≤ e k - a ∧ runOk e k b (e k - a - 3)) := bb_eq ⟨fun ⟨h1, _, h3⟩ => ⟨h1, h3⟩, fun ⟨h1, h2⟩ => ⟨h1, fun z => by omega, h2⟩⟩
  have e3 : bb (3 * 1 + 2 * 1 ≤ e k - a ∧ (1 = 1 → pr = none) ∧ runOk e k b (e k - a - (3 * 1 + 2 * 1))) = bb (5 ≤ e k - a ∧ pr = none ∧ runOk e k b (e k - a - 5)) := bb_eq ⟨fun ⟨h1, h2, h3⟩ => ⟨h1, h2 rfl, h3⟩, fun ⟨h1, h2, h3⟩ => ⟨h1, fun _ => h2, h3⟩⟩
  unfold br
  rw [tA, e0, e1, e2, e3]
  simp
theorem tA_skip {e : Nat → Nat} {n k a b : Nat} {pr : Option Nat} {O : List Nat} (h : e k - a = 0) : tA e (n + 1) k a b pr O = tA e n (k + 1) b 0 pr O := by
  rw [tA, h, if_pos (bb_t ⟨Nat.le_refl _, Or.inl rfl⟩), if_neg (fun z => by have := (bb_iff.mp z).1; omega), if_neg (fun z => by have := (bb_iff.mp z).1; omega), if_neg (fun z => by have := (bb_iff.mp z).1; omega)]
  simp
def dlt (k a b j : Nat) : Nat := if j = k then a else if j = k + 1 then b else 0
def pI : Option Nat → Int32
  | none => -1
  | some q => nI q
/-- the ways kept so far -/
def Ws (m : zm) (w : Nat) (d : Nat → Nat) (Wl : List (Nat × List Nat)) : Prop := m.1 3 5 = nI Wl.length ∧ ∀ v q O', Wl[v]? = some (q, O') → (∀ i, i < w → m.1 6 (5 * v + i) = nI (d i)) ∧ (∀ i x, O'[i]? = some x → m.1 6 (5 * v + (w + i)) = nI x) ∧ m.1 6 (5 * v + 4) = nI q ∧ w + O'.length = 4
def St (m : zm) (e : Nat → Nat) (w : Nat) (d : Nat → Nat) (k a b : Nat) (pr : Option Nat) (O : List Nat) : Prop := (∀ j, k ≤ j → j < 34 → m.1 4 j = nI (e j - dlt k a b j)) ∧ m.1 3 2 = nI (w + O.length) ∧ m.1 3 3 = pI pr ∧ (∀ i, i < w → m.1 5 i = nI (d i)) ∧ ∀ i x, O[i]? = some x → m.1 5 (w + i) = nI x
/-- only sets behind the c-th and the ways differ -/
def eqW (m m' : zm) (c : Nat) : Prop := (∀ q j, ¬ (q = 5 ∧ c ≤ j) → ¬ q = 6 → ¬ (q = 3 ∧ j = 5) → m'.1 q j = m.1 q j) ∧ m'.2 = m.2
theorem eqW.tr {m m1 m2 : zm} {c : Nat} (h1 : eqW m m1 c) (h2 : eqW m1 m2 c) : eqW m m2 c := ⟨fun q j a b c => (h2.1 q j a b c).trans (h1.1 q j a b c), h2.2.trans h1.2⟩
theorem St.w {m m' : zm} {e : Nat → Nat} {w : Nat} {d : Nat → Nat} {k a b : Nat} {pr : Option Nat} {O : List Nat} (s : St m e w d k a b pr O) (h : eqW m m' (w + O.length)) : St m' e w d k a b pr O := by
  obtain ⟨s1, s2, s3, s4, s5⟩ := s
  refine ⟨fun j j1 j2 => ?_, ?_, ?_, fun i hi => ?_, fun i x hx => ?_⟩
  · rw [h.1 4 j (by omega) (by omega) (by omega)]; exact s1 j j1 j2
  · rw [h.1 3 2 (by omega) (by omega) (by omega)]; exact s2
  · rw [h.1 3 3 (by omega) (by omega) (by omega)]; exact s3
  · rw [h.1 5 i (by omega) (by omega) (by omega)]; exact s4 i hi
  · have : i < O.length := by
      refine Classical.byContradiction (fun z => ?_)
      rw [List.getElem?_eq_none (by omega)] at hx
      cases hx
    rw [h.1 5 (w + i) (by omega) (by omega) (by omega)]; exact s5 i x hx
theorem w_keepWay {m : zm} {w q : Nat} {d : Nat → Nat} {O : List Nat} {Wl : List (Nat × List Nat)} {K : zm → Prop} (g2 : m.1 3 2 = nI 4) (g3 : m.1 3 3 = nI q) (hq : q < 34) (g5 : ∀ i, i < w → m.1 5 i = nI (d i)) (gO : ∀ i x, O[i]? = some x → m.1 5 (w + i) = nI x) (hO : w + O.length = 4) (W : Ws m w d Wl) (h8 : Wl.length < 8) (k : ∀ m', eqW m m' 4 → Ws m' w d (Wl ++ [(q, O)]) → K m') : j_Splitter_keepWay m K := by
  obtain ⟨w5, wv⟩ := W
  have ne : ¬ (nI q : Int32) = -1 := fun z => by
    have := nI_pos' (show q < 2 ^ 31 by omega)
    rw [z] at this
    exact absurd this (by decide)
  unfold j_Splitter_keepWay
  rw [g2, g3, w5, show ((8 : Int32) ≤ nI Wl.length) = (8 ≤ Wl.length) from pz_le (a := 8) (by omega) (by omega)]
  refine ⟨fun z => absurd rfl z, fun _ => ⟨fun z => absurd z ne, fun _ => ⟨fun z => by omega, fun _ => ?_⟩⟩⟩
  have ml : ∀ x, x < 8 → ∀ y, y < 5 → nI x * 5 + nI y = nI (5 * x + y) := by decide +kernel
  have main : ∀ n i m', i + n = 4 → (∀ a j, ¬ (a = 6 ∧ 5 * Wl.length ≤ j ∧ j < 5 * Wl.length + i) → m'.1 a j = m.1 a j) → m'.2 = m.2 → (∀ j, j < i → m'.1 6 (5 * Wl.length + j) = m.1 5 j) → j_Splitter_keepWay_L27 K (n + 1) (nI i) m' := by
    intro n
    induction n with
    | zero =>
      intro i m' hi f1 f2 f3
      have e : i = 4 := by omega
      subst e
      have h5 : m'.1 3 5 = nI Wl.length := by rw [f1 3 5 (by omega), w5]
      rw [j_Splitter_keepWay_L27, show ((4 : Int32) ≤ nI 4) = True from propext ⟨fun _ => trivial, fun _ => by decide⟩, h5, show nI Wl.length * 5 + 4 = nI (5 * Wl.length + 4) from ml _ h8 4 (by omega), nI_clamp (by omega), f1 3 3 (by omega), g3]
      refine ⟨fun _ => ⟨pz_in (by omega) (by omega), fun m1 h1 => ?_⟩, fun z => absurd trivial z⟩
      rw [show m1.1 3 5 = nI Wl.length from by rw [h1, pz_rI, if_neg (by omega), h5], nI_1]
      intro m2 h2
      refine k m2 ⟨fun a j n1 n2 n3 => ?_, ?_⟩ ⟨?_, fun v q' O' hv => ?_⟩
      · rw [h2, pz_rI, if_neg n3, h1, pz_rI, if_neg (by omega), f1 a j (by omega)]
      · rw [h2, pz_rI2, h1, pz_rI2, f2]
      · rw [h2, pz_rI, if_pos ⟨rfl, rfl⟩, List.length_append]; rfl
      · have rd : ∀ j, ¬ j = 5 * Wl.length + 4 → m2.1 6 j = m'.1 6 j := fun j hj => by rw [h2, pz_rI, if_neg (by omega), h1, pz_rI, if_neg (by omega)]
        by_cases hvl : v < Wl.length
        · rw [List.getElem?_append_left hvl] at hv
          obtain ⟨o1, o2, o3, o4⟩ := wv v q' O' hv
          refine ⟨fun i hi => ?_, fun i x hx => ?_, ?_, o4⟩
          · rw [rd _ (by omega), f1 6 _ (by omega)]; exact o1 i hi
          · have : i < O'.length := by
              refine Classical.byContradiction (fun z => ?_)
              rw [List.getElem?_eq_none (by omega)] at hx
              cases hx
            rw [rd _ (by omega), f1 6 _ (by omega)]; exact o2 i x hx
          · rw [rd _ (by omega), f1 6 _ (by omega)]; exact o3
        · have ev : v = Wl.length := by
            refine Classical.byContradiction (fun z => ?_)
            rw [List.getElem?_eq_none (by rw [List.length_append]; simp; omega)] at hv
            cases hv
          subst ev
          rw [List.getElem?_append_right (Nat.le_refl _), Nat.sub_self] at hv
          have hv : some (q, O) = some (q', O') := hv
          injection hv with hv
          injection hv with hv1 hv2
          subst hv1 hv2
          refine ⟨fun i hi => ?_, fun i x hx => ?_, ?_, hO⟩
          · rw [rd _ (by omega), f3 i (by omega)]; exact g5 i hi
          · have : i < O.length := by
              refine Classical.byContradiction (fun z => ?_)
              rw [List.getElem?_eq_none (by omega)] at hx
              cases hx
            rw [rd _ (by omega), f3 (w + i) (by omega)]; exact gO i x hx
          · rw [h2, pz_rI, if_neg (by omega), h1, pz_rI, if_pos ⟨rfl, rfl⟩]
    | succ n ih =>
      intro i m' hi f1 f2 f3
      have h5 : m'.1 3 5 = nI Wl.length := by rw [f1 3 5 (by omega), w5]
      rw [j_Splitter_keepWay_L27, show ((4 : Int32) ≤ nI i) = (4 ≤ i) from pz_le (a := 4) (by omega) (by omega), h5, ml _ h8 i (by omega), nI_clamp (by omega), nI_clamp (by omega)]
      refine ⟨fun z => by omega, fun _ => ⟨pz_in (by omega) (by omega), pz_in (by omega) (by omega), fun m3 h3 y hy => ?_⟩⟩
      rw [hy, nI_1]
      refine ih (i + 1) m3 (by omega) (fun a j hn => ?_) ?_ (fun j hj => ?_)
      · rw [h3, pz_rI, if_neg (by omega), f1 a j (by omega)]
      · rw [h3, pz_rI2, f2]
      · rw [h3, pz_rI]
        by_cases q : j = i
        · rw [if_pos ⟨rfl, by omega⟩, f1 5 i (by omega), q]
        · rw [if_neg (by omega)]; exact f3 j (by omega)
  exact ⟨5, main 4 0 m (by omega) (fun _ _ _ => rfl) rfl (fun j hj => by omega)⟩
theorem w_hasRuns {e : Nat → Nat} {k a b r : Nat} {m : zm} {K : Int32 → zm → Prop} (hk : k < 34) (he : ∀ j, e j ≤ 4) (hr : r ≤ 4) (g : ∀ j, k ≤ j → j < 34 → m.1 4 j = nI (e j - dlt k a b j)) (hb : k + 1 < 34 → b ≤ e (k + 1)) (hT : runOk e k b r → K 1 m) (hF : ¬ runOk e k b r → K 0 m) : j_Splitter_hasRuns (nI k) (nI r) m K := by
  unfold j_Splitter_hasRuns j_Splitter_hasRuns_L43 j_Splitter_hasRuns_L47 j_Splitter_hasRuns_L48
  rw [pz_0 (by omega), show ((27 : Int32) ≤ nI k) = (27 ≤ k) from pz_le (a := 27) (by omega) (by omega), pz_rem9 (by omega), show ((6 : Int32) < nI (k % 9)) = (6 < k % 9) from pz_lt (a := 6) (by omega) (by omega), nI_1, nI_2]
  refine ⟨fun h => ⟨Or.inr rfl, hT (Or.inl h)⟩, fun h0 => ⟨fun h => ⟨Or.inl rfl, hF (fun z => by unfold runOk at z; omega)⟩, fun h27 => ⟨fun h => ⟨Or.inl rfl, hF (fun z => by unfold runOk at z; omega)⟩, fun h9 => ?_⟩⟩⟩
  have e1 := he (k + 1)
  have e2 := he (k + 2)
  have b1 := hb (by omega)
  have d1 : dlt k a b (k + 1) = b := by unfold dlt; rw [if_neg (by omega), if_pos rfl]
  have d2 : dlt k a b (k + 2) = 0 := by unfold dlt; rw [if_neg (by omega), if_neg (by omega)]
  rw [nI_clamp (by omega), nI_clamp (by omega), g (k + 1) (by omega) (by omega), g (k + 2) (by omega) (by omega), d1, d2, pz_lt (by omega) (by omega), pz_lt (by omega) (by omega)]
  refine ⟨pz_in (by omega) (by omega), fun h => ⟨Or.inl rfl, hF (fun z => by unfold runOk at z; omega)⟩, fun h1 => ⟨pz_in (by omega) (by omega), fun h => ⟨Or.inl rfl, hF (fun z => by unfold runOk at z; omega)⟩, fun h2 => ⟨Or.inr rfl, hT (Or.inr ⟨by omega, by omega, by omega, by omega⟩)⟩⟩⟩
