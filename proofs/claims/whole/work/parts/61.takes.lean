/-! WHAT A PLAYER MAY TAKE -/
theorem w_closed {p : Nat} {m m0 : zm} {S : zS} {K : Int32 → zm → Prop} (R : Rc m S m0) (B : Bd S) (hp : p < 4) (hT : cls S p → K 1 m) (hF : ¬ cls S p → K 0 m) : j_Player_isClosed (13 + 5 * p) m K := by
  have b := B.b2 p
  have main : ∀ n i, i + n = S.1 2 p → (∀ j, j < i → mf S p j % 4 = 3) → j_Player_isClosed_L2 (13 + 5 * p) K (n + 1) (nI i) m := by
    intro n
    induction n with
    | zero =>
      intro i hi h
      rw [j_Player_isClosed_L2, R.g2 hp, pz_le (by omega) (by omega)]
      exact ⟨fun _ => hT (fun j hj => h j (by omega)), fun z => absurd (by omega) z⟩
    | succ n ih =>
      intro i hi h
      have b3 := B.b3 (4 * p + i)
      rw [j_Player_isClosed_L2, R.g2 hp, pz_le (by omega) (by omega), nI_clamp (by omega), R.g3 hp (by omega), pz_rem4 (by omega), show (3 : Int32) = nI 3 from rfl, pz_eq (by omega) (by omega)]
      refine ⟨fun z => by omega, fun _ => ⟨pz_in (by omega) (by omega), fun e => ?_, fun e => ?_⟩⟩
      · intro y hy
        rw [hy, nI_1]
        exact ih (i + 1) (by omega) (fun j hj => by
          by_cases q : j = i
          · rw [q]; exact e
          · exact h j (by omega))
      · exact hF (fun z => e (z i (by omega)))
  exact ⟨_, main (S.1 2 p) 0 (by omega) (fun j hj => by omega)⟩
theorem w_closedR {p : Nat} {m m0 : zm} {S : zS} {K : Int32 → zm → Prop} (R : Rr m S m0) (B : Bd S) (M : Mk S) (hp : p < 4) (hT : cls S p → K 1 m) (hF : ¬ cls S p → K 0 m) : j_Model_isClosed (nI p) m K := by
  have b := B.b2 p
  have main : ∀ n i x, i + n = S.1 2 p → ((x = 1 ∧ ∀ j, j < i → mf S p j % 4 = 3) ∨ (x = 0 ∧ ¬ cls S p)) → j_Model_isClosed_L6 (nI p) K (n + 1) x (nI (4 * p + i)) m := by
    intro n
    induction n with
    | zero =>
      intro i x hi h
      rw [j_Model_isClosed_L6, nI_clamp (by omega), R.g2 hp, pz_4, pz_le (by omega) (by omega)]
      refine ⟨pz_in hp (by omega), fun _ => ?_, fun z => absurd (by omega) z⟩
      rcases h with ⟨e, h⟩ | ⟨e, h⟩ <;> subst e
      · exact ⟨Or.inr rfl, hT (fun j hj => h j (by omega))⟩
      · exact ⟨Or.inl rfl, hF h⟩
    | succ n ih =>
      intro i x hi h
      have b3 := B.b3 (4 * p + i)
      have go : ∀ x, ((x = 1 ∧ ∀ j, j < i + 1 → mf S p j % 4 = 3) ∨ (x = 0 ∧ ¬ cls S p)) → j_Model_isClosed_L39 (nI p) (j_Model_isClosed_L6 (nI p) K (n + 1)) K (nI (4 * p + i)) x m := by
        intro x h y hy
        rw [hy, nI_1]
        exact ih (i + 1) x (by omega) h
      rw [j_Model_isClosed_L6, nI_clamp (by omega), R.g2 hp, pz_4, pz_le (by omega) (by omega), nI_clamp (by omega), R.g23 (by omega), (M _).2.1, show (3 : Int32) = nI 3 from rfl, pz_eq (by omega) (by omega)]
      refine ⟨pz_in hp (by omega), fun z => by omega, fun _ => ?_⟩
      rcases h with ⟨e, h⟩ | ⟨e, h⟩ <;> subst e
      · refine ⟨fun z => absurd z (by decide), fun _ => ⟨pz_in (by omega) (by omega), fun e => ?_, fun e => ?_⟩⟩
        · exact go 0 (Or.inr ⟨rfl, fun z => e (z i (by omega))⟩)
        · refine go 1 (Or.inl ⟨rfl, fun j hj => ?_⟩)
          by_cases q : j = i
          · rw [q]; exact e
          · exact h j (by omega)
      · exact ⟨fun _ => go 0 (Or.inr ⟨rfl, h⟩), fun z => absurd rfl z⟩
  intro y hy
  rw [hy, pz_4m]
  exact ⟨_, main (S.1 2 p) 0 1 (by omega) (Or.inl ⟨rfl, fun j hj => by omega⟩)⟩
theorem nI_2 (n : Nat) : nI n + 2 = nI (n + 2) := nI_add n 2
theorem w_hasRest {p t : Nat} {a : Int32} {m m0 : zm} {S : zS} {K : Int32 → zm → Prop} (R : Rc m S m0) (B : Bd S) (hp : p < 4) (ht : til S = t) (h34 : t < 34) (hT : (∃ lo, a = nI lo ∧ hr S p lo) → K 1 m) (hF : ¬ (∃ lo, a = nI lo ∧ hr S p lo) → K 0 m) : j_Player_hasRestOfRun (13 + 5 * p) a (nI t) m K := by
  unfold j_Player_hasRestOfRun j_Player_hasRestOfRun_L31
  rcases ar_or (n := 27) (by omega) a with ⟨lo, hlo, e⟩ | h
  · subst e
    have un : ∀ l, nI lo = nI l → hr S p l → l = lo := fun l h1 h2 => by
      rw [pz_eq (by omega) (by have := h2.1; omega)] at h1; exact h1.symm
    have no : ¬ hr S p lo → K 0 m := fun z => hF (fun ⟨l, h1, h2⟩ => z (by rw [← un l h1 h2]; exact h2))
    rw [show (27 : Int32) = nI 27 from rfl, show (6 : Int32) = nI 6 from rfl, nI_2, pz_rem9 (by omega), pz_le (by omega) (by omega), pz_lt (by omega) (by omega), pz_lt (by omega) (by omega), pz_le (by omega) (by omega)]
    refine ⟨fun z => absurd z (nI_n0 (by omega)), fun _ => ⟨fun z => by omega, fun _ => ⟨fun z => no (fun h => by have := h.2.1; omega), fun h9 => ⟨fun z => no (fun h => by have := h.2.2.1; omega), fun hl => ⟨fun hu => ?_, fun z => no (fun h => by have := h.2.2.2.1; omega)⟩⟩⟩⟩⟩
    have main : ∀ n i, i + n = 3 → (∀ k, lo ≤ k → k < lo + i → ¬ k = t → ¬ cf S p k = 0) → j_Player_hasRestOfRun_L35 (13 + 5 * p) (nI lo) (nI t) K (n + 1) (nI (lo + i)) m := by
      intro n
      induction n with
      | zero =>
        intro i hi h
        rw [j_Player_hasRestOfRun_L35, nI_2, pz_lt (by omega) (by omega)]
        refine ⟨fun _ => hT ⟨lo, rfl, hlo, by omega, by omega, by omega, fun k h1 h2 h3 => h k h1 (by omega) (by rw [← ht]; exact h3)⟩, fun z => absurd (by omega) z⟩
      | succ n ih =>
        intro i hi h
        have go : (¬ lo + i = t → ¬ cf S p (lo + i) = 0) → j_Player_hasRestOfRun_L58 (13 + 5 * p) (nI lo) (nI t) (j_Player_hasRestOfRun_L35 (13 + 5 * p) (nI lo) (nI t) K (n + 1)) K (nI (lo + i)) m := by
          intro h2 y hy
          rw [hy, nI_1]
          refine ih (i + 1) (by omega) (fun k h3 h4 h5 => ?_)
          by_cases q : k = lo + i
          · subst q; exact h2 h5
          · exact h k h3 (by omega) h5
        have b := B.b1 (34 * p + (lo + i))
        rw [j_Player_hasRestOfRun_L35, nI_2, pz_lt (by omega) (by omega), pz_eq (by omega) (by omega), nI_clamp (by omega), R.g1 hp (by omega), pz_0 (by omega)]
        refine ⟨fun z => by omega, fun _ => ⟨fun e => go (fun z => absurd e z), fun e => ⟨pz_in (by omega) (by omega), fun h2 => go (fun _ => by rw [cf_at (by omega)]; exact h2), fun h2 => no (fun z => ?_)⟩⟩⟩
        have := z.2.2.2.2 (lo + i) (by omega) (by omega) (by rw [ht]; exact e)
        rw [cf_at (by omega)] at this
        exact this h2
    exact ⟨_, main 3 0 (by omega) (fun k h1 h2 => by omega)⟩
  · have no : K 0 m := hF (fun ⟨l, h1, h2⟩ => by
      rw [h1] at h
      have := h2.1
      rcases h with z | z
      · exact nI_n0 (by omega) z
      · rw [pz_le (by omega) (by omega)] at z; omega)
    refine ⟨fun _ => no, fun h1 => ⟨fun _ => no, fun h2 => ?_⟩⟩
    rcases h with z | z
    · exact absurd z h1
    · exact absurd z h2
theorem w_canRun {p t : Nat} {a : Int32} {m m0 : zm} {S : zS} {K : Int32 → zm → Prop} (R : Rr m S m0) (B : Bd S) (hp : p < 4) (ht : til S = t) (h34 : t < 34) (hT : (∃ lo, a = nI lo ∧ hr S p lo) → K 1 m) (hF : ¬ (∃ lo, a = nI lo ∧ hr S p lo) → K 0 m) : j_Model_canRun (nI p) (nI t) a m K := by
  have z0 : ¬ (∃ lo, a = nI lo ∧ hr S p lo) → j_Model_canRun_L35 (nI p) (nI t) a K m := by
    intro h
    refine ⟨1, ?_⟩
    rw [j_Model_canRun_L41]
    exact ⟨fun _ => ⟨Or.inl rfl, hF h⟩, fun _ => ⟨fun _ => ⟨Or.inl rfl, hF h⟩, fun z => absurd rfl z⟩⟩
  unfold j_Model_canRun
  rcases ar_or (n := 25) (by omega) a with ⟨lo, hlo, e⟩ | h
  · subst e
    have un : ∀ l, nI lo = nI l → hr S p l → l = lo := fun l h1 h2 => by
      rw [pz_eq (by omega) (by have := h2.1; omega)] at h1; exact h1.symm
    have nn : ¬ hr S p lo → ¬ (∃ l, nI lo = nI l ∧ hr S p l) := fun z ⟨l, h1, h2⟩ => z (by rw [← un l h1 h2]; exact h2)
    have no : ¬ hr S p lo → j_Model_canRun_L35 (nI p) (nI t) (nI lo) K m := fun z => z0 (nn z)
    unfold j_Model_rank
    dsimp only
    rw [show (25 : Int32) = nI 25 from rfl, show (8 : Int32) = nI 8 from rfl, nI_2, pz_rem9 (by omega), nI_1, pz_le (by omega) (by omega), pz_lt (by omega) (by omega), pz_le (by omega) (by omega), pz_lt (by omega) (by omega)]
    refine ⟨fun z => absurd z (nI_n0 (by omega)), fun _ => ⟨fun z => by omega, fun _ => ⟨fun z => no (fun h => by have := h.2.1; omega), fun h9 => ⟨fun z => no (fun h => by have := h.2.2.1; omega), fun hl => ⟨fun z => no (fun h => by have := h.2.2.2.1; omega), fun hu => ?_⟩⟩⟩⟩⟩
    have main : ∀ n i x, i + n = 3 → ((x = 1 ∧ ∀ k, lo ≤ k → k < lo + i → ¬ k = t → ¬ cf S p k = 0) ∨ (x = 0 ∧ ¬ hr S p lo)) → j_Model_canRun_L41 (nI p) (nI t) (nI lo) K (n + 1) x (nI (lo + i)) m := by
      intro n
      have z1 : ¬ hr S p lo → j_Model_canRun_L88 (nI p) (nI t) (nI lo) K 0 m := fun h => ⟨Or.inl rfl, hF (nn h)⟩
      induction n with
      | zero =>
        intro i x hi h
        rw [j_Model_canRun_L41, nI_2, pz_lt (by omega) (by omega)]
        refine ⟨fun _ => ?_, fun z => absurd (by omega) z⟩
        rcases h with ⟨e, h⟩ | ⟨e, h⟩ <;> subst e
        · exact ⟨Or.inr rfl, hT ⟨lo, rfl, by omega, by omega, by omega, by omega, fun k h1 h2 h3 => h k h1 (by omega) (by rw [← ht]; exact h3)⟩⟩
        · exact z1 h
      | succ n ih =>
        intro i x hi h
        have b := B.b1 (34 * p + (lo + i))
        have go : ∀ x, ((x = 1 ∧ ∀ k, lo ≤ k → k < lo + (i + 1) → ¬ k = t → ¬ cf S p k = 0) ∨ (x = 0 ∧ ¬ hr S p lo)) → j_Model_canRun_L80 (nI p) (nI t) (nI lo) (j_Model_canRun_L41 (nI p) (nI t) (nI lo) K (n + 1)) K (nI (lo + i)) x m := by
          intro x h y hy
          rw [hy, nI_1]
          exact ih (i + 1) x (by omega) h
        rw [j_Model_canRun_L41, nI_2, pz_lt (by omega) (by omega), pz_eq (by omega) (by omega), pz_34, nI_clamp (by omega), R.g1 hp (by omega), show (0 : Int32) = nI 0 from rfl, pz_le (by omega) (by omega)]
        refine ⟨fun z => by omega, fun _ => ?_⟩
        rcases h with ⟨e, h⟩ | ⟨e, h⟩ <;> subst e
        · have go1 : (¬ lo + i = t → ¬ cf S p (lo + i) = 0) → j_Model_canRun_L75 (nI p) (nI t) (nI lo) (j_Model_canRun_L41 (nI p) (nI t) (nI lo) K (n + 1)) K (nI (lo + i)) m := by
            intro h2
            refine go 1 (Or.inl ⟨rfl, fun k h3 h4 h5 => ?_⟩)
            by_cases q : k = lo + i
            · subst q; exact h2 h5
            · exact h k h3 (by omega) h5
          refine ⟨fun z => absurd z (by decide), fun _ => ⟨fun e => go1 (fun z => absurd e z), fun e => ⟨pz_in (by omega) (by omega), fun h2 => go 0 (Or.inr ⟨rfl, fun z => ?_⟩), fun h2 => go1 (fun _ => by rw [cf_at (by omega)]; omega)⟩⟩⟩
          have := z.2.2.2.2 (lo + i) (by omega) (by omega) (by rw [ht]; exact e)
          rw [cf_at (by omega)] at this
          omega
        · exact ⟨fun _ => z1 h, fun z => absurd rfl z⟩
    exact ⟨_, main 3 0 1 (by omega) (Or.inl ⟨rfl, fun k h1 h2 => by omega⟩)⟩
  · have no : j_Model_canRun_L35 (nI p) (nI t) a K m := z0 (fun ⟨l, h1, h2⟩ => by
      rw [h1] at h
      have := h2.1
      have := h2.2.1
      rcases h with z | z
      · exact nI_n0 (by omega) z
      · rw [pz_le (by omega) (by omega)] at z; omega)
    refine ⟨fun _ => no, fun h1 => ⟨fun _ => no, fun h2 => ?_⟩⟩
    rcases h with z | z
    · exact absurd z h1
    · exact absurd z h2
/-- the kinds from which runs may start: t - 2, t - 1, t -/
theorem lw_lt : ∀ t, t < 34 → ∀ i, i < 4 → ((nI t < nI (t + i) - 2) ↔ 2 < i) := by decide +kernel
theorem lw_1 : ∀ t, t < 34 → ∀ i, i < 4 → nI (t + i) - 2 + 1 = nI (t + (i + 1)) - 2 := by decide +kernel
theorem lw_n : ∀ t, t < 34 → ∀ i, i < 4 → 2 ≤ t + i → nI (t + i) - 2 = nI (t + i - 2) := by decide +kernel
theorem hr_ex {S : zS} {p t : Nat} (ht : til S = t) (h34 : t < 34) : (∃ lo, hr S p lo) ↔ ∃ i, i < 3 ∧ ∃ lo, nI (t + i) - 2 = nI lo ∧ hr S p lo := by
  refine ⟨fun ⟨lo, h⟩ => ⟨lo + 2 - t, ?_, lo, ?_, h⟩, fun ⟨_, _, lo, _, h⟩ => ⟨lo, h⟩⟩
  · have := h.2.2.1; have := h.2.2.2.1; omega
  · have h1 := h.2.2.1
    have h2 := h.2.2.2.1
    rw [lw_n t h34 _ (by omega) (by omega)]
    congr 1
    omega
theorem or2 : ∀ b, b < 4 → nI (4 * b) ||| 2 = nI (4 * b + 2) ∧ nI (4 * b + 2) ||| 2 = nI (4 * b + 2) := by decide +kernel
theorem w_findTakes {p t : Nat} {m m0 : zm} {S : zS} {K : Int32 → zm → Prop} (R : Rc m S m0) (B : Bd S) (hp : p < 4) (h21 : S.1 21 0 = t + 1) (hl : S.1 20 0 + S.1 17 0 ≤ 122) (k : K (nI (tk_ S p)) m) : j_Table_findTakes (nI p) m K := by
  have b21 := B.b21 0
  have b15 := B.b15 0
  have b6 := B.b6 p
  have b17 := B.b17 0
  have b14 := B.b14 0
  have ht : til S = t := by unfold til; omega
  have h34 : t < 34 := by omega
  have b1 := B.b1 (34 * p + t)
  have g9 : m.1 0 9 = nI t := by rw [R.g21, h21, nI_pred]
  have ec : cf S p t = S.1 1 (34 * p + t) := cf_at h34
  have hlf : lft S ≤ 122 := by unfold lft; omega
  have none : (S.1 15 0 = 1 ∨ ¬ S.1 6 p = 0 ∨ lft S = 0) → j_Table_findTakes_L32 (nI p) K m := by
    intro h
    have e : tk_ S p = 0 := if_pos h
    rw [e] at k
    exact k
  unfold j_Table_findTakes
  rw [nI_clamp (by omega)]
  refine ⟨pz_in hp (by omega), fun y hy => ?_⟩
  subst hy
  rw [R.g15, R.g6 hp, pz_0 (by omega), pz_0 (by omega)]
  refine ⟨fun h => none (Or.inl (by omega)), fun h15 => ⟨fun h => none (Or.inr (Or.inl h)), fun h6 => ?_⟩⟩
  refine w_countLeft R hl ?_
  rw [show (1 : Int32) = nI 1 from rfl, pz_le (by omega) (by omega)]
  refine ⟨fun hl1 => ?_, fun h => none (Or.inr (Or.inr (by omega)))⟩
  have etk : tk_ S p = 4 * ((if 2 ≤ S.1 1 (34 * p + t) then 1 else 0) + (if 3 ≤ S.1 1 (34 * p + t) ∧ S.1 17 0 < 4 then 2 else 0)) + (if p = (S.1 14 0 + 1) % 4 ∧ bb (∃ lo, hr S p lo) = true then 2 else 0) := by
    unfold tk_
    rw [if_neg (by omega), ht, ec]
    split <;> split <;> omega
  have fin : ∀ b, b = (if 2 ≤ S.1 1 (34 * p + t) then 1 else 0) + (if 3 ≤ S.1 1 (34 * p + t) ∧ S.1 17 0 < 4 then 2 else 0) → j_Table_findTakes_L82 (nI p) K (13 + 5 * p) (nI (4 * b)) m := by
    intro b hb
    have hb4 : b < 4 := by rw [hb]; split <;> split <;> omega
    rw [← hb] at etk
    unfold j_Table_findTakes_L82
    rw [R.g14, nI_1, pz_rem4 (by omega), pz_eq (by omega) (by omega)]
    refine ⟨fun h => ?_, fun h y hy => ?_⟩
    · rw [etk, if_neg (fun z => h z.1)] at k
      exact k
    · rw [hy, g9]
      have main : ∀ n i v, i + n = 3 → v = (if bb (∃ i', i' < i ∧ ∃ lo, nI (t + i') - 2 = nI lo ∧ hr S p lo) = true then 2 else 0) → j_Table_findTakes_L102 (nI p) K (n + 1) (13 + 5 * p) (nI (4 * b + v)) (nI (t + i) - 2) m := by
        intro n
        induction n with
        | zero =>
          intro i v hi hv
          rw [j_Table_findTakes_L102, g9]
          refine ⟨fun _ => ?_, fun z => absurd ((lw_lt t h34 i (by omega)).mpr (by omega)) z⟩
          have ei : i = 3 := by omega
          subst ei
          have : tk_ S p = 4 * b + v := by
            rw [etk, hv]
            by_cases q : ∃ lo, hr S p lo
            · rw [if_pos ⟨h, bb_t q⟩, if_pos (bb_t ((hr_ex ht h34).mp q))]
            · rw [if_neg (fun z => q (bb_iff.mp z.2)), if_neg (fun z => q ((hr_ex ht h34).mpr (bb_iff.mp z)))]
          rw [this] at k
          exact k
        | succ n ih =>
          intro i v hi hv
          have go : ∀ v', v' = (if bb (∃ i', i' < i + 1 ∧ ∃ lo, nI (t + i') - 2 = nI lo ∧ hr S p lo) = true then 2 else 0) → j_Table_findTakes_L128 (nI p) (j_Table_findTakes_L102 (nI p) K (n + 1)) K (13 + 5 * p) (nI (4 * b + v')) (nI (t + i) - 2) m := by
            intro v' hv' y hy
            rw [hy, lw_1 t h34 i (by omega)]
            exact ih (i + 1) v' (by omega) hv'
          rw [j_Table_findTakes_L102, g9]
          refine ⟨fun z => absurd ((lw_lt t h34 i (by omega)).mp z) (by omega), fun _ => ?_⟩
          refine w_hasRest R B hp ht h34 (fun h2 => ?_) (fun h2 => ?_)
          · refine ⟨fun z => absurd z (by decide), fun _ y hy => ?_⟩
            have e : y = nI (4 * b + 2) := by
              rw [hy, hv]
              split
              · exact (or2 b hb4).2
              · exact (or2 b hb4).1
            rw [e]
            refine go 2 ?_
            rw [if_pos (bb_t ⟨i, by omega, h2⟩)]
          · refine ⟨fun _ => go v ?_, fun z => absurd rfl z⟩
            rw [hv]
            by_cases q : ∃ i', i' < i ∧ ∃ lo, nI (t + i') - 2 = nI lo ∧ hr S p lo
            · obtain ⟨i', q1, q2⟩ := q
              rw [if_pos (bb_t ⟨i', q1, q2⟩), if_pos (bb_t ⟨i', by omega, q2⟩)]
            · rw [if_neg (fun z => q (bb_iff.mp z)), if_neg (fun z => ?_)]
              obtain ⟨i', q1, q2⟩ := bb_iff.mp z
              by_cases e : i' = i
              · subst e; exact h2 q2
              · exact q ⟨i', by omega, q2⟩
      refine ⟨4, main 3 0 0 (by omega) ?_⟩
      rw [if_neg]
      intro z
      obtain ⟨i', q1, _⟩ := bb_iff.mp z
      omega
  have mid : ∀ b, b = (if 2 ≤ S.1 1 (34 * p + t) then 1 else 0) → j_Table_findTakes_L53 (nI p) K (13 + 5 * p) (nI (4 * b)) m := by
    intro b hb
    unfold j_Table_findTakes_L53
    rw [g9, nI_clamp (by omega), R.g1 hp h34, R.g17, show (3 : Int32) = nI 3 from rfl, show (4 : Int32) = nI 4 from rfl, pz_lt (by omega) (by omega), pz_le (by omega) (by omega)]
    refine ⟨pz_in h34 (by omega), fun h => ?_, fun h => ⟨fun h2 => ?_, fun h2 y hy => ?_⟩⟩
    · refine fin b ?_
      rw [hb, if_neg (c := 3 ≤ _ ∧ _) (by omega), Nat.add_zero]
    · refine fin b ?_
      rw [hb, if_neg (c := 3 ≤ _ ∧ _) (by omega), Nat.add_zero]
    · have e : y = nI (4 * (b + 2)) := by
        rw [hy]
        rcases (show b = 0 ∨ b = 1 by rw [hb]; split <;> omega) with e | e <;> subst e <;> rfl
      rw [e]
      refine fin (b + 2) ?_
      rw [hb, if_pos (c := 3 ≤ _ ∧ _) (by omega)]
  rw [g9, nI_clamp (by omega), R.g1 hp h34, show (2 : Int32) = nI 2 from rfl, pz_lt (by omega) (by omega)]
  refine ⟨pz_in h34 (by omega), fun h => ?_, fun h y hy => ?_⟩
  · refine mid 0 ?_
    rw [if_neg (by omega)]
  · have e : y = nI (4 * 1) := by rw [hy]; rfl
    rw [e]
    refine mid 1 ?_
    rw [if_pos (by omega)]
theorem w_runOptions {p t : Nat} {m m0 : zm} {S : zS} {K : Int32 → zm → Prop} (R : Rr m S m0) (B : Bd S) (hp : p < 4) (ht : til S = t) (h34 : t < 34) (k : K (nI (if bb (∃ lo, hr S p lo) = true then 2 else 0)) m) : j_Model_runOptions (nI p) (nI t) m K := by
  have main : ∀ n i x, i + n = 3 → x = (if bb (∃ i', i' < i ∧ ∃ lo, nI (t + i') - 2 = nI lo ∧ hr S p lo) = true then 1 else 0) → j_Model_runOptions_L7 (nI p) (nI t) K (n + 1) x (nI (t + i) - 2) m := by
    intro n
    induction n with
    | zero =>
      intro i x hi hx
      have ei : i = 3 := by omega
      subst ei
      rw [j_Model_runOptions_L7]
      refine ⟨fun _ => ?_, fun z => absurd ((lw_lt t h34 3 (by omega)).mpr (by omega)) z⟩
      by_cases q : ∃ lo, hr S p lo
      · rw [if_pos (bb_t q)] at k
        rw [if_pos (bb_t ((hr_ex ht h34).mp q))] at hx
        subst hx
        exact ⟨fun z => absurd z (by decide), fun _ => k⟩
      · rw [if_neg (fun z => q (bb_iff.mp z))] at k
        rw [if_neg (fun z => q ((hr_ex ht h34).mpr (bb_iff.mp z)))] at hx
        subst hx
        exact ⟨fun _ => k, fun z => absurd rfl z⟩
    | succ n ih =>
      intro i x hi hx
      have go : ∀ x', x' = (if bb (∃ i', i' < i + 1 ∧ ∃ lo, nI (t + i') - 2 = nI lo ∧ hr S p lo) = true then 1 else 0) → j_Model_runOptions_L33 (nI p) (nI t) (j_Model_runOptions_L7 (nI p) (nI t) K (n + 1)) K (nI (t + i) - 2) x' m := by
        intro x' hx' y hy
        rw [hy, lw_1 t h34 i (by omega)]
        exact ih (i + 1) x' (by omega) hx'
      rw [j_Model_runOptions_L7]
      refine ⟨fun z => absurd ((lw_lt t h34 i (by omega)).mp z) (by omega), fun _ => ?_⟩
      by_cases q : ∃ i', i' < i ∧ ∃ lo, nI (t + i') - 2 = nI lo ∧ hr S p lo
      · rw [if_pos (bb_t q)] at hx
        subst hx
        obtain ⟨i', q1, q2⟩ := q
        refine ⟨fun _ => go 1 ?_, fun z => absurd z (by decide)⟩
        rw [if_pos (bb_t ⟨i', by omega, q2⟩)]
      · rw [if_neg (fun z => q (bb_iff.mp z))] at hx
        subst hx
        refine ⟨fun z => absurd rfl z, fun _ => w_canRun R B hp ht h34 (fun h2 => ?_) (fun h2 => ?_)⟩
        · refine ⟨fun z => absurd z (by decide), fun _ => go 1 ?_⟩
          rw [if_pos (bb_t ⟨i, by omega, h2⟩)]
        · refine ⟨fun _ => go 0 ?_, fun z => absurd rfl z⟩
          rw [if_neg (fun z => ?_)]
          obtain ⟨i', q1, q2⟩ := bb_iff.mp z
          by_cases e : i' = i
          · subst e; exact h2 q2
          · exact q ⟨i', by omega, q2⟩
  intro y hy
  rw [hy]
  refine ⟨4, main 3 0 0 (by omega) ?_⟩
  rw [if_neg]
  intro z
  obtain ⟨i', q1, _⟩ := bb_iff.mp z
  omega
