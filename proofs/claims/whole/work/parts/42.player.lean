/-! a player's tiles: how many are owned, waits -/
noncomputable def bb (P : Prop) : Bool := @decide P (Classical.propDecidable P)
theorem bb_t {P : Prop} (h : P) : bb P = true := by simp [bb, h]
theorem bb_f {P : Prop} (h : ¬ P) : bb P = false := by simp [bb, h]
theorem bb_iff {P : Prop} : bb P = true ↔ P := by simp [bb]
/-- how many tiles of a kind a meld (4 * kind + form) has -/
def cin_ (d k : Nat) : Nat := if d % 4 = 0 then (if d / 4 ≤ k ∧ k ≤ d / 4 + 2 then 1 else 0) else if k = d / 4 then (if d % 4 = 1 then 3 else 4) else 0
theorem cin_le (d k : Nat) : cin_ d k ≤ 4 := by unfold cin_; split <;> split <;> (try split) <;> omega
theorem w_Shape_countIn {d k : Nat} {m : zm} {K : Int32 → zm → Prop} (hd : d < 1000) (hk : k < 1000) (hK : K (nI (cin_ d k)) m) : j_Shape_countIn (nI d) (nI k) m K := by
  intro y1 hy1 y2 hy2
  rw [pz_div4 (by omega)] at hy1
  rw [pz_rem4 (by omega)] at hy2
  subst hy1; subst hy2
  unfold cin_ at hK
  refine ⟨fun h => ⟨fun h2 => ⟨fun h3 => ?_, fun h3 => ?_⟩, fun h2 => ?_⟩, fun h => ⟨fun h2 => ?_, fun h2 => ⟨fun h3 => ?_, fun h3 => ?_⟩⟩⟩
  · rw [pz_0 (by omega)] at h
    rw [pz_eq (by omega) (by omega)] at h2
    have h3 : ¬ d % 4 = 1 := fun e => h3 (by rw [e]; rfl)
    rw [if_neg h, if_pos h2, if_neg h3] at hK
    exact hK
  · rw [pz_0 (by omega)] at h
    rw [pz_eq (by omega) (by omega)] at h2
    have h3 : d % 4 = 1 := (nI_eq (b := 1) (by omega) (by omega)).mp h3
    rw [if_neg h, if_pos h2, if_pos h3] at hK
    exact hK
  · rw [pz_0 (by omega)] at h
    rw [pz_eq (by omega) (by omega)] at h2
    rw [if_neg h, if_neg h2] at hK
    exact hK
  · rw [pz_0 (by omega)] at h
    rw [pz_lt (by omega) (by omega)] at h2
    rw [if_pos h, if_neg (by omega)] at hK
    exact hK
  · rw [pz_0 (by omega)] at h
    rw [pz_lt (by omega) (by omega)] at h2
    have h3 : d / 4 + 2 < k := by
      have h3 : nI (d / 4) + nI 2 < nI k := h3
      rw [nI_add, pz_lt (by omega) (by omega)] at h3
      exact h3
    rw [if_pos h, if_neg (by omega)] at hK
    exact hK
  · rw [pz_0 (by omega)] at h
    rw [pz_lt (by omega) (by omega)] at h2
    have h3 : ¬ d / 4 + 2 < k := by
      have h3 : ¬ nI (d / 4) + nI 2 < nI k := h3
      rw [nI_add, pz_lt (by omega) (by omega)] at h3
      exact h3
    rw [if_pos h, if_pos (by omega)] at hK
    exact hK
/-- a player's cells hold counts c and w melds d -/
def pP (m : zm) (q : Nat) (c d : Nat → Nat) (w : Nat) : Prop := pA m (q + 1) c ∧ m.1 q 2 = nI w ∧ w ≤ 4 ∧ ∀ i, i < w → m.1 (q + 2) i = nI (d i) ∧ d i < 1000
def msum (d : Nat → Nat) (k : Nat) : Nat → Nat
  | 0 => 0
  | n + 1 => msum d k n + cin_ (d n) k
theorem msum_le (d : Nat → Nat) (k : Nat) : ∀ n, msum d k n ≤ 4 * n
  | 0 => Nat.le_refl _
  | n + 1 => by have := msum_le d k n; have := cin_le (d n) k; rw [msum]; omega
def own_ (c d : Nat → Nat) (w k : Nat) : Nat := c k + msum d k w
theorem w_Player_countOwned {q k w : Nat} {c d : Nat → Nat} {m : zm} {K : Int32 → zm → Prop} (hp : pP m q c d w) (hk : k < 34) (hK : K (nI (own_ c d w k)) m) : j_Player_countOwned q (nI k) m K := by
  obtain ⟨hc, hw, hw4, hd⟩ := hp
  obtain ⟨hck, hcb⟩ := hc k hk
  have key : ∀ (n i : Nat), i + n = w → j_Player_countOwned_L9 q (nI k) K (n + 1) (nI (c k + msum d k i)) (nI i) m := by
    intro n
    induction n with
    | zero =>
      intro i hi
      have hi : i = w := by omega
      subst hi
      rw [j_Player_countOwned_L9, hw]
      refine ⟨fun _ => hK, fun h => absurd (Int32.le_refl _) h⟩
    | succ n ih =>
      intro i hi
      obtain ⟨h1, h2⟩ := hd i (by omega)
      have hm := msum_le d k i
      rw [j_Player_countOwned_L9, hw]
      refine ⟨fun h => ?_, fun _ => ⟨pz_in (by omega) (by omega), ?_⟩⟩
      · rw [pz_le (by omega) (by omega)] at h
        omega
      · rw [nI_clamp (by omega), h1]
        refine w_Shape_countIn h2 (by omega) ?_
        intro y4 hy4 y5 hy5
        rw [hy4, hy5, nI_add, nI_1, Nat.add_assoc]
        exact ih (i + 1) (by omega)
  refine ⟨pz_in hk (by omega), fun y1 hy1 => ⟨w + 1, ?_⟩⟩
  rw [hy1, nI_clamp (by omega), hck]
  exact key w 0 (by omega)
def upc (c : Nat → Nat) (k : Nat) : Nat → Nat := fun j => if j = k then c j + 1 else c j
/-- a wait -/
def wait_ (c d : Nat → Nat) (w k : Nat) : Prop := own_ c d w k < 4 ∧ cmp_ (upc c k) w
theorem zm_same {m : zm} {q k : Nat} {x y : Int32} (h : y = m.1 q k) : zm_wI (zm_wI m q k x) q k y = m := by
  apply Prod.ext
  · funext a b
    show (if a = q ∧ b = k then y else (if a = q ∧ b = k then x else m.1 a b)) = m.1 a b
    split
    · rename_i hh; rw [hh.1, hh.2, h]
    · rfl
  · rfl
theorem w_Player_isWait {q k w : Nat} {c d : Nat → Nat} {m : zm} {K : Int32 → zm → Prop} (hp : pP m q c d w) (hk : k < 34) (hT : wait_ c d w k → K 1 m) (hF : ¬ wait_ c d w k → K 0 m) : j_Player_isWait q (nI k) m K := by
  refine w_Player_countOwned hp hk ?_
  obtain ⟨hc, hw, hw4, hd⟩ := hp
  obtain ⟨hck, hcb⟩ := hc k hk
  have hm := msum_le d k w
  have ho : own_ c d w k = c k + msum d k w := rfl
  refine ⟨fun h => ⟨pz_in hk (by omega), pz_in hk (by omega), fun m3 h3 => ?_⟩, fun h => ?_⟩
  · have h : own_ c d w k < 4 := (nI_ltI (b := 4) (by omega) (by omega)).mp h
    rw [nI_clamp (by omega), hck, nI_1] at h3
    have hq2 : m3.1 q 2 = nI w := by
      rw [h3, pz_rI, if_neg (by omega)]
      exact hw
    have hc3 : pA m3 (q + 1) (upc c k) := by
      intro j hj
      obtain ⟨g1, g2⟩ := hc j hj
      rw [h3, pz_rI]
      unfold upc
      by_cases e : j = k
      · subst e
        rw [if_pos ⟨rfl, rfl⟩, if_pos rfl]
        exact ⟨rfl, by omega⟩
      · rw [if_neg (fun z => e z.2), if_neg e]
        exact ⟨g1, g2⟩
    rw [hq2]
    have fin : ∀ r : Int32, zm_isB r → (∀ m6 : zm, m6 = zm_wI m3 (q + 1) (Int32.toNatClampNeg (nI k)) ((m3.1 (q + 1) (Int32.toNatClampNeg (nI k))) - 1) → m6 = m) := by
      intro r _ m6 h6
      rw [h6, nI_clamp (by omega), h3]
      refine zm_same ?_
      rw [pz_rI, if_pos ⟨rfl, rfl⟩, hck]
      exact nI_pred (c k)
    refine w_Shape_isComplete (by omega) hc3 (fun hcm => ?_) (fun hcm => ?_)
    · refine ⟨pz_in hk (by omega), pz_in hk (by omega), fun m6 h6 => ⟨Or.inr rfl, ?_⟩⟩
      rw [fin 1 (Or.inr rfl) m6 h6]
      exact hT ⟨h, hcm⟩
    · refine ⟨pz_in hk (by omega), pz_in hk (by omega), fun m6 h6 => ⟨Or.inl rfl, ?_⟩⟩
      rw [fin 0 (Or.inl rfl) m6 h6]
      exact hF (fun e => hcm e.2)
  · have h : ¬ own_ c d w k < 4 := fun e => h ((nI_ltI (b := 4) (by omega) (by omega)).mpr e)
    exact hF (fun e => h e.1)
/-- the sum of the counts -/
def csum (c : Nat → Nat) : Nat → Nat
  | 0 => 0
  | n + 1 => csum c n + c n
theorem csum_le {c : Nat → Nat} (h : ∀ k, k < 34 → c k < 2000) : ∀ n, n ≤ 34 → csum c n ≤ 2000 * n
  | 0, _ => Nat.le_refl _
  | n + 1, hn => by have := csum_le h n (by omega); have := h n (by omega); rw [csum]; omega
theorem w_Player_lacksOne {q w : Nat} {c d : Nat → Nat} {m : zm} {K : Int32 → zm → Prop} (hp : pP m q c d w) (hT : 3 * w + csum c 34 = 13 → K 1 m) (hF : ¬ 3 * w + csum c 34 = 13 → K 0 m) : j_Player_lacksOne q m K := by
  obtain ⟨hc, hw, hw4, hd⟩ := hp
  have hcs := csum_le (fun k hk => (hc k hk).2)
  have key : ∀ (n k : Nat), k + n = 34 → j_Player_lacksOne_L9 q K (n + 1) (nI (3 * w + csum c k)) (nI k) m := by
    intro n
    induction n with
    | zero =>
      intro k hk
      have hk : k = 34 := by omega
      subst hk
      have := hcs 34 (by omega)
      rw [j_Player_lacksOne_L9]
      refine ⟨fun _ => ⟨fun h => ?_, fun h => ?_⟩, fun h => absurd (by decide) h⟩
      · exact ⟨Or.inl rfl, hF (fun e => h (by rw [e]; rfl))⟩
      · exact ⟨Or.inr rfl, hT ((nI_eq (b := 13) (by omega) (by omega)).mp h)⟩
    | succ n ih =>
      intro k hk
      have hk34 : k < 34 := by omega
      obtain ⟨hck, hcb⟩ := hc k hk34
      have := hcs k (by omega)
      rw [j_Player_lacksOne_L9]
      refine ⟨fun h => ?_, fun _ => ⟨pz_in hk34 (by omega), fun y2 h2 y3 h3 => ?_⟩⟩
      · have h : 34 ≤ k := (nI_leI (a := 34) (by omega) (by omega)).mp h
        omega
      · rw [h2, h3, nI_clamp (by omega), hck, nI_add, nI_1, Nat.add_assoc]
        exact ih (k + 1) (by omega)
  intro y1 hy1
  refine ⟨35, ?_⟩
  have e : y1 = nI (3 * w + csum c 0) := by
    rw [hy1, hw]
    exact pk_mul 3 w
  rw [e]
  exact key 34 0 rfl
/-- the waits as a mask -/
noncomputable def wm_ (c d : Nat → Nat) (w : Nat) : Nat := if 3 * w + csum c 34 = 13 then mk_ (fun k => bb (wait_ c d w k)) 34 else 0
theorem w_Player_findWaits {q w : Nat} {c d : Nat → Nat} {m : zm} {K : Int64 → zm → Prop} (hp : pP m q c d w) (hK : K (lN (wm_ c d w)) m) : j_Player_findWaits q m K := by
  unfold wm_ at hK
  refine w_Player_lacksOne hp (fun h => ?_) (fun h => ?_)
  · rw [if_pos h] at hK
    have key : ∀ (n k : Nat), k + n = 34 → j_Player_findWaits_L11 q K (n + 1) (lN (mk_ (fun k => bb (wait_ c d w k)) k)) (nI k) m := by
      intro n
      induction n with
      | zero =>
        intro k hk
        have hk : k = 34 := by omega
        subst hk
        rw [j_Player_findWaits_L11]
        exact ⟨fun _ => hK, fun h => absurd (by decide) h⟩
      | succ n ih =>
        intro k hk
        have hk34 : k < 34 := by omega
        have ih1 := ih (k + 1) (by omega)
        rw [j_Player_findWaits_L11]
        refine ⟨fun h => ?_, fun _ => w_Player_isWait hp hk34 (fun hw => ?_) (fun hw => ?_)⟩
        · have h : 34 ≤ k := (nI_leI (a := 34) (by omega) (by omega)).mp h
          omega
        · refine ⟨fun e => absurd e (by decide), fun _ y5 h5 y6 h6 => ?_⟩
          rw [h5, h6, nI_1, mk_or (by omega) (bb_t hw)]
          exact ih1
        · refine ⟨fun _ y6 h6 => ?_, fun e => absurd rfl e⟩
          rw [mk_, if_neg (by rw [bb_f hw]; decide)] at ih1
          rw [h6, nI_1]
          exact ih1
    exact ⟨fun e => absurd e (by decide), fun _ => ⟨35, key 34 0 rfl⟩⟩
  · rw [if_neg h] at hK
    exact ⟨fun _ => hK, fun e => absurd rfl e⟩
theorem wm_lt (c d : Nat → Nat) (w : Nat) : wm_ c d w < 2 ^ 34 := by
  unfold wm_
  split
  · exact mk_lt _ 34
  · decide
theorem mk_testBit {f : Nat → Bool} {n k : Nat} (h : k < n) : (mk_ f n).testBit k = f k := by
  have := mk_bit (f := f) h
  rw [Nat.testBit_eq_decide_div_mod_eq, this]
  cases f k <;> rfl
theorem mk_and0 {f : Nat → Bool} {n x : Nat} (hx : x < 2 ^ n) : (x &&& mk_ f n = 0) ↔ ∀ k, k < n → x.testBit k = true → f k = false := by
  constructor
  · intro h k hk hb
    have h1 : (x &&& mk_ f n).testBit k = false := by rw [h]; exact Nat.zero_testBit k
    rw [Nat.testBit_and, mk_testBit hk, hb, Bool.true_and] at h1
    exact h1
  · intro h
    apply Nat.eq_of_testBit_eq
    intro k
    rw [Nat.testBit_and, Nat.zero_testBit]
    by_cases hk : k < n
    · rw [mk_testBit hk]
      cases hb : x.testBit k with
      | false => rfl
      | true => rw [h k hk hb]; rfl
    · rw [Nat.testBit_lt_two_pow (Nat.lt_of_lt_of_le hx (Nat.pow_le_pow_right (by decide) (by omega))), Bool.false_and]
theorem wm_bit {c d : Nat → Nat} {w k : Nat} (hk : k < 34) : (wm_ c d w).testBit k = true ↔ 3 * w + csum c 34 = 13 ∧ wait_ c d w k := by
  unfold wm_
  split
  · rename_i h
    rw [mk_testBit hk, bb_iff]
    exact ⟨fun e => ⟨h, e⟩, fun e => e.2⟩
  · rename_i h
    rw [Nat.zero_testBit]
    exact ⟨fun e => absurd e (by decide), fun e => absurd e.1 h⟩
/-- furiten: a tile was missed, or a wait is among the discards f -/
def fur_ (c d : Nat → Nat) (w ms : Nat) (f : Nat → Bool) : Prop := ¬ ms = 0 ∨ (3 * w + csum c 34 = 13 ∧ ∃ k, k < 34 ∧ wait_ c d w k ∧ f k = true)
theorem w_Player_isFuriten {q w ms : Nat} {c d : Nat → Nat} {f : Nat → Bool} {m : zm} {K : Int32 → zm → Prop} (hp : pP m q c d w) (hms : m.1 q 8 = nI ms) (hm1 : ms < 1000) (hf : m.2 q 5 = lN (mk_ f 34)) (hT : fur_ c d w ms f → K 1 m) (hF : ¬ fur_ c d w ms f → K 0 m) : j_Player_isFuriten q m K := by
  refine ⟨fun h => ⟨Or.inr rfl, hT (Or.inl ?_)⟩, fun h => w_Player_findWaits hp ?_⟩
  · rw [hms, pz_0 (by omega)] at h; exact h
  · rw [hms, pz_0 (by omega)] at h
    have hlt := wm_lt c d w
    have hlf := mk_lt f 34
    have h34 : (2 : Nat) ^ 34 < 2 ^ 63 := by decide
    have hz : (lg_cmp (lN (wm_ c d w) &&& m.2 q 5) 0 = 0) = (∀ k, k < 34 → (wm_ c d w).testBit k = true → f k = false) := by
      rw [pz_cmp0, hf, wb_and (by omega) (by omega)]
      refine propext (Iff.trans ?_ (mk_and0 hlt))
      have h5 : (wm_ c d w &&& mk_ f 34) < 2 ^ 63 := Nat.lt_of_le_of_lt Nat.and_le_left (by omega)
      exact pk_lEQ (b := 0) h5 (by decide)
    rw [hz]
    refine ⟨fun e => ⟨Or.inl rfl, hF ?_⟩, fun e => ⟨Or.inr rfl, hT (Or.inr ?_)⟩⟩
    · rintro (g | ⟨g, k, hk, hwt, hfk⟩)
      · exact g h
      · rw [e k hk ((wm_bit hk).mpr ⟨g, hwt⟩)] at hfk
        exact absurd hfk (by decide)
    · apply Classical.byContradiction
      intro g
      apply e
      intro k hk hb
      obtain ⟨h1, h2⟩ := (wm_bit hk).mp hb
      cases hfk : f k with
      | false => rfl
      | true => exact absurd ⟨h1, k, hk, h2, hfk⟩ g
