/-! THE REFERENCE RATES ONE READING -/
theorem gA_sb {S : zS} {p pr : Nat} {sd : Bool} {y : Nat → Nat × Nat × Bool} {la : Option (Nat × Nat)} : ∀ j, j < 42 → ¬ (j = 20 ∨ j = 21) → (gR S p pr y la j || gT S p pr y j) = sb_ (en_ S p sd) pr (lst y 4) la j := by
  refine ix42 ?_ ?_ ?_ ?_ ?_ ?_ ?_ ?_ ?_ ?_ ?_ ?_ ?_ ?_ ?_ ?_ ?_ ?_ ?_ ?_ ?_ ?_ ?_ ?_ ?_ ?_ ?_ ?_ ?_ ?_ ?_ ?_ ?_ ?_ ?_ ?_ ?_ ?_ ?_ ?_ ?_ ?_ <;> intro h <;> simp [gR, gT, one_, sb_, en_, Bool.and_assoc] <;> simp at h <;> rfl
theorem gA_20 {S : zS} {p pr : Nat} {y : Nat → Nat × Nat × Bool} {la : Option (Nat × Nat)} : (gR S p pr y la 20 || gT S p pr y 20) = decide (3 ≤ nC (lst y 4)) := by simp [gR, gT, one_]
theorem gA_21 {S : zS} {p pr : Nat} {y : Nat → Nat × Nat × Bool} {la : Option (Nat × Nat)} : (gR S p pr y la 21 || gT S p pr y 21) = decide (3 ≤ nQ (lst y 4)) := by simp [gR, gT, one_]
theorem b34 {n : Nat} (h : n ≤ 4) (h2 : ¬ n = 4) : decide (3 ≤ n) = (n == 3) := by
  by_cases q : n = 3
  · rw [q]; rfl
  · rw [decide_eq_false (by omega), show (n == 3) = false from beq_f.symm ▸ q]
theorem vA_L {S : zS} {p pr dr fu : Nat} {sd : Bool} {hp tl : Nat → Bool} {y : Nat → Nat × Nat × Bool} {la : Option (Nat × Nat)} {F g : Nat → Bool} (hF : ∀ j, F j = ((hp j || tl j) || (gR S p pr y la j || gT S p pr y j))) (hg : ∀ j, g j = (F j && (!bb (lim_ F) || decide (30 ≤ j)))) (hfu : fu = if sd = true ∧ g 8 = true then 20 else fu_ (en_ S p sd) pr (lst y 4) la) : vy F (en_ S p sd).1 dr fu = vL (en_ S p sd) hp tl dr pr (lst y 4) la := by
  have hC : nC (lst y 4) ≤ 4 := cP_le _ y 4
  have hQ : nQ (lst y 4) ≤ 4 := cP_le _ y 4
  have same : ∀ j, j < 42 → ¬ (j = 20 ∨ j = 21) → F j = (hp j || tl j || sb_ (en_ S p sd) pr (lst y 4) la j) := fun j h1 h2 => by rw [hF, gA_sb (sd := sd) j h1 h2]
  have h32 : F 32 = (hp 32 || tl 32 || nC (lst y 4) == 4) := same 32 (by omega) (by omega)
  have h33 : F 33 = (hp 33 || tl 33 || nQ (lst y 4) == 4) := same 33 (by omega) (by omega)
  have all : ¬ lim_ F → ∀ j, j < 42 → F j = (hp j || tl j || sb_ (en_ S p sd) pr (lst y 4) la j) := by
    intro nl j hj
    have n4 : ¬ nC (lst y 4) = 4 := fun z => nl ⟨32, by omega, by omega, by rw [h32, z, show ((4 : Nat) == 4) = true from rfl, Bool.or_true]⟩
    have q4 : ¬ nQ (lst y 4) = 4 := fun z => nl ⟨33, by omega, by omega, by rw [h33, z, show ((4 : Nat) == 4) = true from rfl, Bool.or_true]⟩
    by_cases e : j = 20 ∨ j = 21
    · rcases e with e | e
      · subst e
        rw [hF, gA_20, b34 hC n4]; rfl
      · subst e
        rw [hF, gA_21, b34 hQ q4]; rfl
    · exact same j hj e
  have hi : ∀ j, 30 ≤ j → j < 42 → F j = (hp j || tl j || sb_ (en_ S p sd) pr (lst y 4) la j) := fun j h1 h2 => same j h2 (by omega)
  have hl : bb (lim_ F) = bb (lim_ (fun j => hp j || tl j || sb_ (en_ S p sd) pr (lst y 4) la j)) := bb_eq ⟨fun ⟨j, a, b, e⟩ => ⟨j, a, b, by show (hp j || tl j || sb_ (en_ S p sd) pr (lst y 4) la j) = true; rw [← hi j a b]; exact e⟩, fun ⟨j, a, b, e⟩ => ⟨j, a, b, by rw [hi j a b]; exact e⟩⟩
  unfold vL
  have hfu2 : fu = if (hp 8 || tl 8 || sb_ (en_ S p sd) pr (lst y 4) la 8) = true ∧ bb (lim_ (fun j => hp j || tl j || sb_ (en_ S p sd) pr (lst y 4) la j)) = false ∧ (en_ S p sd).2.1 = true then 20 else fu_ (en_ S p sd) pr (lst y 4) la := by
    rw [hfu, hg 8, hl, same 8 (by omega) (by omega)]
    have esd : (en_ S p sd).2.1 = sd := rfl
    rw [esd]
    generalize (hp 8 || tl 8 || sb_ (en_ S p sd) pr (lst y 4) la 8) = A
    generalize bb (lim_ (fun j => hp j || tl j || sb_ (en_ S p sd) pr (lst y 4) la j)) = C
    cases A <;> cases C <;> cases sd <;> simp
  rw [← hfu2]
  exact vy_lim hi all
theorem w_readR {S : zS} {p pr dr : Nat} {sd : Bool} {al : Nat → Nat} {hp tl : Nat → Bool} {y : Nat → Nat × Nat × Bool} {la : Option (Nat × Nat)} {u : zV} {m m0 : zm} {K : zm → Prop} {R112 : zm → Prop} (J : Jz m S m0 p sd y pr la) (B : Bd S) (M : Mk S) (hp4 : p < 4) (ga : ∀ k, k < 34 → m.1 51 k = nI (al k)) (hdr : dr = dor S p al (S.1 17 0 + 1)) (hd : dr < 500) (H : Hq m u) (kk : ∀ m', eqK m m' → Hq m' (up_ u (vL (en_ S p sd) hp tl dr pr (lst y 4) la)) → j_Model_judgeSets_L259 (lY (fun j => hp j || tl j)) R112 K m') : j_Model_judgeSets_L224 (lY (fun j => hp j || tl j)) R112 K (bI true) m := by
  unfold j_Model_judgeSets_L224
  refine ⟨fun z => absurd z (by decide), fun _ => w_ofRunsR J B M hp4 (w_ofTripletsR J B hp4 (fun z hz => ?_))⟩
  rw [lY_or, lY_or] at hz
  subst hz
  refine w_countedR (fun g hg => w_fuOfSetsR J B M hp4 ?_)
  have fb := fu_b (E := en_ S p sd) (pr := pr) (x := y) (la := la)
  generalize hfu : (if sd = true ∧ g 8 = true then 20 else fu_ (en_ S p sd) pr (lst y 4) la) = fu
  have f3 : fu < 300 := by rw [← hfu]; split <;> omega
  refine w_judge J.2.1 B M hp4 J.2.2.1 ga rfl hdr hd f3 H (fun m' e1 h1 => kk m' e1 ?_)
  have ev := vA_L (S := S) (p := p) (pr := pr) (dr := dr) (fu := fu) (sd := sd) (hp := hp) (tl := tl) (y := y) (la := la) (F := fun j => ((hp j || tl j) || gR S p pr y la j) || gT S p pr y j) (g := g) (fun j => Bool.or_assoc _ _ _) hg hfu.symm
  have ec' : (en_ S p sd).1 = bb (cls S p) := rfl
  rw [ec'] at ev
  rw [ev] at h1
  exact h1
/-! the arrays: own sets, then melds -/
def yA (sd : Bool) (a : Option Nat) (O : List (Nat × Nat)) (d : Nat → Nat) : Nat → Nat × Nat × Bool := fun i => if i < O.length then ((O.getD i (0, 0)).1, (O.getD i (0, 0)).2, sd || !(a == some i)) else (fm (d (i - O.length)), d (i - O.length) / 4, decide (d (i - O.length) % 4 = 3))
theorem getD_s {O : List (Nat × Nat)} {i : Nat} (h : i < O.length) : O[i]? = some (O.getD i (0, 0)) := by rw [List.getD_eq_getElem?_getD, List.getElem?_eq_getElem h]; rfl
theorem lst_yA (sd : Bool) (a : Option Nat) (O : List (Nat × Nat)) (d : Nat → Nat) (w : Nat) : lst (yA sd a O d) (O.length + w) = tg_ sd a O ++ mg_ d w := by
  rw [lst_a]
  have e1 : lst (yA sd a O d) O.length = tg_ sd a O := by
    rw [lst_r]
    unfold tg_
    refine List.ext_getElem? (fun i => ?_)
    rw [List.getElem?_map, List.getElem?_mapIdx]
    by_cases hi : i < O.length
    · rw [List.getElem?_eq_getElem (show i < (List.range O.length).length by rw [List.length_range]; exact hi), List.getElem_range, getD_s hi]
      show some (yA sd a O d i) = some ((O.getD i (0, 0)).1, (O.getD i (0, 0)).2, sd || !(a == some i))
      unfold yA
      rw [if_pos hi]
    · rw [List.getElem?_eq_none (by rw [List.length_range]; omega), List.getElem?_eq_none (by omega)]
      rfl
  have e2 : ∀ n, lst (fun j => yA sd a O d (O.length + j)) n = mg_ d n := by
    intro n
    induction n with
    | zero => rfl
    | succ n ih =>
      rw [lst, mg_, ih]
      congr 2
      unfold yA
      rw [if_neg (by omega), show O.length + n - O.length = n by omega]
      rfl
  rw [e1, e2]
def Ja (m : zm) (O : List (Nat × Nat)) (d : Nat → Nat) (n : Nat) : Prop := (∀ i x, O[i]? = some x → m.1 54 i = nI x.1 ∧ m.1 53 i = nI x.2 ∧ m.1 55 i = 0) ∧ ∀ j, j < n → m.1 54 (O.length + j) = nI (fm (d j)) ∧ m.1 53 (O.length + j) = nI (d j / 4) ∧ m.1 55 (O.length + j) = bI (!(d j % 4 == 3))
theorem Ja.r {m : zm} {O : List (Nat × Nat)} {d : Nat → Nat} {w : Nat} (A : Ja m O d w) (hw : O.length + w = 4) (hO : ∀ x, x ∈ O → x.1 < 3 ∧ x.2 < 34) (hd : ∀ i, d i < 136) (sd : Bool) (a : Option Nat) : Jr m (yA sd a O d) := by
  intro i hi
  by_cases h : i < O.length
  · have e := getD_s h
    obtain ⟨h1, h2, _⟩ := A.1 i _ e
    have hm := hO _ (List.mem_of_getElem? e)
    unfold yA
    rw [if_pos h]
    exact ⟨h1, hm.1, h2, hm.2⟩
  · obtain ⟨h1, h2, _⟩ := A.2 (i - O.length) (by omega)
    rw [show O.length + (i - O.length) = i by omega] at h1 h2
    have := hd (i - O.length)
    unfold yA
    rw [if_neg h]
    refine ⟨h1, ?_, h2, ?_⟩
    · show fm _ < 3
      unfold fm
      split
      · omega
      · split <;> omega
    · show d (i - O.length) / 4 < 34
      omega
/-- where the last tile is said to be -/
def atOk (m : zm) (a : Option Nat) : Prop := (a = none ∧ m.1 33 45 = -1) ∨ ∃ i, i < 4 ∧ m.1 33 45 = nI i ∧ a = some i
theorem w_closedSetR {m : zm} {O : List (Nat × Nat)} {d : Nat → Nat} {w i : Nat} {sd : Bool} {a : Option Nat} {K : Int32 → zm → Prop} (A : Ja m O d w) (hw : O.length + w = 4) (g34 : m.1 33 34 = bI sd) (g40 : m.1 33 40 = nI O.length) (ga : atOk m a) (hi : i < 4) (kk : K (bI (yA sd a O d i).2.2) m) : j_Model_isClosedSet (nI i) m K := by
  unfold j_Model_isClosedSet
  rw [nI_clamp (by omega), g40, g34, bI_0, show (nI O.length ≤ nI i) = (O.length ≤ i) from pz_le (by omega) (by omega)]
  by_cases h : i < O.length
  · have e := getD_s h
    obtain ⟨_, _, h3⟩ := A.1 i _ e
    unfold yA at kk
    rw [if_pos h] at kk
    have kk : K (bI (sd || !(a == some i))) m := kk
    have ha : (m.1 33 45 = nI i) = (a = some i) := by
      rcases ga with ⟨e1, e2⟩ | ⟨i0, h0, e1, e2⟩
      · rw [e2, e1]
        refine propext ⟨fun z => ?_, fun z => by cases z⟩
        have := nI_pos' (show i < 2 ^ 31 by omega)
        rw [← z] at this
        exact absurd this (by decide)
      · rw [e1, e2, pz_eq (by omega) (by omega)]
        exact propext ⟨fun z => by rw [z], fun z => by injection z⟩
    rw [h3, ha]
    refine ⟨pz_in (by omega) (by omega), fun z => absurd rfl z, fun _ => ⟨fun z => by omega, fun _ => ⟨fun z => ⟨Or.inr rfl, ?_⟩, fun z => ⟨fun z2 => ⟨Or.inl rfl, ?_⟩, fun z2 => ⟨Or.inr rfl, ?_⟩⟩⟩⟩⟩
    · rw [ts_nf z] at kk; exact kk
    · rw [z, z2, beq_self_eq_true] at kk; exact kk
    · rw [beq_eq_false_iff_ne.mpr z2, Bool.not_false, Bool.or_true] at kk; exact kk
  · obtain ⟨_, _, h3⟩ := A.2 (i - O.length) (by omega)
    rw [show O.length + (i - O.length) = i by omega] at h3
    unfold yA at kk
    rw [if_neg h] at kk
    have kk : K (bI (decide (d (i - O.length) % 4 = 3))) m := kk
    rw [h3, bI_0]
    by_cases q : d (i - O.length) % 4 = 3
    · rw [decide_eq_true q] at kk
      rw [show (d (i - O.length) % 4 == 3) = true from beq_p.symm ▸ q]
      exact ⟨pz_in (by omega) (by omega), fun z => absurd rfl z, fun _ => ⟨fun z => ⟨Or.inr rfl, kk⟩, fun z => absurd (by omega) z⟩⟩
    · rw [decide_eq_false q] at kk
      rw [show (d (i - O.length) % 4 == 3) = false from beq_f.symm ▸ q]
      exact ⟨pz_in (by omega) (by omega), fun z => ⟨Or.inl rfl, kk⟩, fun z => absurd z (by decide)⟩
