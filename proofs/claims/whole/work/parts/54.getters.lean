theorem lft_c {a b : Nat} (h : a + b ≤ 122) : (122 : Int32) - nI b - nI a = nI (122 - b - a) := by
  rw [show (122 : Int32) = nI 122 from rfl, pk_sub (by omega), pk_sub (by omega)]
theorem w_countLeft {m m0 : zm} {S : zS} {K : Int32 → zm → Prop} (R : Rc m S m0) (h : S.1 20 0 + S.1 17 0 ≤ 122) (k : K (nI (lft S)) m) : j_Wall_countLeft m K := by
  unfold j_Wall_countLeft
  rw [R.g17, R.g20, lft_c h]
  show K (if 0 < nI (lft S) then nI (lft S) else 0) m
  have hl : lft S ≤ 122 := by unfold lft; omega
  by_cases z : 0 < lft S
  · have z1 : (0 : Int32) < nI (lft S) := (nI_ltI (a := 0) (by omega) (by omega)).mpr z
    rw [if_pos z1]; exact k
  · have z : lft S = 0 := by omega
    rw [z] at k ⊢
    exact k
theorem w_left {m m0 : zm} {S : zS} {K : Int32 → zm → Prop} (Q : Rr m S m0) (h : S.1 20 0 + S.1 17 0 ≤ 122) (e : S.1 25 0 = S.1 20 0) (k : K (nI (lft S)) m) : j_Model_left m K := by
  unfold j_Model_left
  rw [Q.g17, Q.g25, e, lft_c h]
  exact k
theorem ti_in {k n : Nat} {x : Int} (hk : k < 1000) (hx : x = n) (h : k ≤ n) : ¬ ((nI k).toInt < 0 ∨ x < (nI k).toInt) := by
  rw [nI_toInt (by omega), hx]; omega
theorem ti_out {a : Int32} {n : Nat} {x : Int} (hn : n < 1000) (hx : x + 1 = n) (ha : a < 0 ∨ nI n ≤ a) : a.toInt < 0 ∨ x < a.toInt := by
  rcases ha with z | z
  · left; rw [Int32.lt_iff_toInt_lt] at z; exact z
  · right; rw [Int32.le_iff_toInt_le, nI_toInt (by omega)] at z; omega
theorem ar_ne {a : Int32} {n k : Nat} (hn : n < 1000) (ha : a < 0 ∨ nI n ≤ a) (hk : k < n) : ¬ a = nI k := by
  rintro rfl
  rcases ha with z | z
  · exact nI_n0 (by omega) z
  · rw [pz_le (by omega) (by omega)] at z; omega
theorem w_onR {m m0 : zm} {S : zS} {a : Int32} {K : Int32 → zm → Prop} (Q : Rr m S m0) (B : Bd S) (hT : sh S → j_Model_table_L21 a K 1 m) (hF : ¬ sh S → j_Model_table_L21 a K 0 m) : j_Model_table a m K := by
  have hb := B.b11 0
  have e1 : (m.1 33 3 < 1) = (S.1 11 0 < 1) := by rw [Q.g11]; exact pz_lt (b := 1) (by omega) (by omega)
  have e2 : (3 < m.1 33 3) = (3 < S.1 11 0) := by rw [Q.g11]; exact pz_lt (a := 3) (by omega) (by omega)
  rw [j_Model_table, e1, e2]
  exact ⟨fun h => hF (fun z => by unfold sh at z; omega), fun h => ⟨fun h2 => hF (fun z => by unfold sh at z; omega), fun h2 => hT (by unfold sh; omega)⟩⟩
theorem ix6 {P : Nat → Prop} (h0 : P 0) (h1 : P 1) (h2 : P 2) (h3 : P 3) (h4 : P 4) (h5 : P 5) : ∀ k, k < 6 → P k
  | 0, _ => h0
  | 1, _ => h1
  | 2, _ => h2
  | 3, _ => h3
  | 4, _ => h4
  | 5, _ => h5
  | _ + 6, h => absurd h (by omega)
theorem q_table {a : Int32} {m : zm} (I : Inv m) {F : Prop → Prop} (hF : ∀ P, P → F P) {K : Int32 → Int32 → zm → Prop} (hK : ∀ r m', Inv m' → K r r m') : j_Table_table a m (fun r1 m1 => F (j_Model_table a m1 (fun r2 m2 => K r1 r2 m2))) := by
  have I' := I
  obtain ⟨S, R, Q, W⟩ := I
  have B := W.1
  have WA := W.2.2.2.2.1
  rcases ar_or (n := 6) (by omega) a with ⟨k, hk, rfl⟩ | ha
  · have ne : ∀ {i j : Nat}, i < 6 → j < 6 → ¬ i = j → ¬ nI i = nI j := fun hi hj e z => e ((nI_eq (by omega) (by omega)).mp z)
    revert k
    refine ix6 ?_ ?_ ?_ ?_ ?_ ?_
    · refine ⟨fun z => absurd z (ti_in (n := 5) (by omega) rfl (by omega)), fun _ => hF _ ?_, fun z => absurd z (by decide), fun z => absurd z (by decide), fun z => absurd z (by decide), fun z => absurd z (by decide), fun z => absurd z (by decide)⟩
      have g : ∀ t, j_Model_table_L21 (nI 0) (fun r2 m2 => K (m.1 0 4) r2 m2) t m := fun t => ⟨fun z => absurd z (ti_in (n := 5) (by omega) rfl (by omega)), fun _ => by rw [R.g12, Q.g12]; exact hK _ _ I', fun z => absurd z (by decide), fun z => absurd z (by decide), fun z => absurd z (by decide), fun z => absurd z (by decide), fun z => absurd z (by decide)⟩
      exact w_onR Q B (fun _ => g 1) (fun _ => g 0)
    · refine ⟨fun z => absurd z (ti_in (n := 5) (by omega) rfl (by omega)), fun z => absurd z (by decide), fun _ => hF _ ?_, fun z => absurd z (by decide), fun z => absurd z (by decide), fun z => absurd z (by decide), fun z => absurd z (by decide)⟩
      have g : ∀ t, j_Model_table_L21 (nI 1) (fun r2 m2 => K (m.1 0 5) r2 m2) t m := fun t => ⟨fun z => absurd z (ti_in (n := 5) (by omega) rfl (by omega)), fun z => absurd z (by decide), fun _ => by rw [R.g13, Q.g13]; exact hK _ _ I', fun z => absurd z (by decide), fun z => absurd z (by decide), fun z => absurd z (by decide), fun z => absurd z (by decide)⟩
      exact w_onR Q B (fun _ => g 1) (fun _ => g 0)
    · refine ⟨fun z => absurd z (ti_in (n := 5) (by omega) rfl (by omega)), fun z => absurd z (by decide), fun z => absurd z (by decide), fun _ => hF _ ?_, fun z => absurd z (by decide), fun z => absurd z (by decide), fun z => absurd z (by decide)⟩
      have g : ∀ t, j_Model_table_L21 (nI 2) (fun r2 m2 => K (m.1 0 6) r2 m2) t m := fun t => ⟨fun z => absurd z (ti_in (n := 5) (by omega) rfl (by omega)), fun z => absurd z (by decide), fun z => absurd z (by decide), fun _ => by rw [R.g34, Q.g34]; exact hK _ _ I', fun z => absurd z (by decide), fun z => absurd z (by decide), fun z => absurd z (by decide)⟩
      exact w_onR Q B (fun _ => g 1) (fun _ => g 0)
    · refine ⟨fun z => absurd z (ti_in (n := 5) (by omega) rfl (by omega)), fun z => absurd z (by decide), fun z => absurd z (by decide), fun z => absurd z (by decide), fun _ => hF _ ?_, fun z => absurd z (by decide), fun z => absurd z (by decide)⟩
      have g : ∀ t, j_Model_table_L21 (nI 3) (fun r2 m2 => K (m.1 0 7) r2 m2) t m := fun t => ⟨fun z => absurd z (ti_in (n := 5) (by omega) rfl (by omega)), fun z => absurd z (by decide), fun z => absurd z (by decide), fun z => absurd z (by decide), fun _ => by rw [R.g35, Q.g35]; exact hK _ _ I', fun z => absurd z (by decide), fun z => absurd z (by decide)⟩
      exact w_onR Q B (fun _ => g 1) (fun _ => g 0)
    · refine ⟨fun z => absurd z (ti_in (n := 5) (by omega) rfl (by omega)), fun z => absurd z (by decide), fun z => absurd z (by decide), fun z => absurd z (by decide), fun z => absurd z (by decide), fun _ => ?_, fun z => absurd z (by decide)⟩
      refine w_shown R B (fun hs => ⟨fun z => absurd z (by decide), fun _ => w_countLeft R WA.2.2.1 (hF _ ?_)⟩) (fun hs => ⟨fun _ => hF _ ?_, fun z => absurd rfl z⟩)
      · refine w_onR Q B (fun _ => ⟨fun z => absurd z (ti_in (n := 5) (by omega) rfl (by omega)), fun z => absurd z (by decide), fun z => absurd z (by decide), fun z => absurd z (by decide), fun z => absurd z (by decide), fun _ => ⟨fun z => absurd z (by decide), fun _ => w_left Q WA.2.2.1 (WA.2.2.2.1 (by unfold sh at hs; omega)) (hK _ _ I')⟩, fun z => absurd z (by decide)⟩) (fun z => absurd hs z)
      · refine w_onR Q B (fun z => absurd z hs) (fun _ => ⟨fun z => absurd z (ti_in (n := 5) (by omega) rfl (by omega)), fun z => absurd z (by decide), fun z => absurd z (by decide), fun z => absurd z (by decide), fun z => absurd z (by decide), fun _ => ⟨fun _ => hK _ _ I', fun z => absurd rfl z⟩, fun z => absurd z (by decide)⟩)
    · refine ⟨fun z => absurd z (ti_in (n := 5) (by omega) rfl (by omega)), fun z => absurd z (by decide), fun z => absurd z (by decide), fun z => absurd z (by decide), fun z => absurd z (by decide), fun z => absurd z (by decide), fun _ => ?_⟩
      refine w_shown R B (fun hs => ⟨fun z => absurd z (by decide), fun _ => hF _ ?_⟩) (fun hs => ⟨fun _ => hF _ ?_, fun z => absurd rfl z⟩)
      · refine w_onR Q B (fun _ => ⟨fun z => absurd z (ti_in (n := 5) (by omega) rfl (by omega)), fun z => absurd z (by decide), fun z => absurd z (by decide), fun z => absurd z (by decide), fun z => absurd z (by decide), fun z => absurd z (by decide), fun _ => ⟨fun z => absurd z (by decide), fun _ => ?_⟩⟩) (fun z => absurd hs z)
        show K _ (m.1 33 16) m
        rw [R.g17, Q.g17]
        exact hK _ _ I'
      · refine w_onR Q B (fun z => absurd z hs) (fun _ => ⟨fun z => absurd z (ti_in (n := 5) (by omega) rfl (by omega)), fun z => absurd z (by decide), fun z => absurd z (by decide), fun z => absurd z (by decide), fun z => absurd z (by decide), fun z => absurd z (by decide), fun _ => ⟨fun _ => hK _ _ I', fun z => absurd rfl z⟩⟩)
  · have nn : ∀ {k}, k < 6 → ¬ a = nI k := fun h => ar_ne (by omega) ha h
    have g : ∀ t, j_Model_table_L21 a (fun r2 m2 => K (-1) r2 m2) t m := fun t => ⟨fun _ => hK _ _ I', fun z => absurd z (nn (k := 0) (by omega)), fun z => absurd z (nn (k := 1) (by omega)), fun z => absurd z (nn (k := 2) (by omega)), fun z => absurd z (nn (k := 3) (by omega)), fun z => absurd z (nn (k := 4) (by omega)), fun z => absurd z (nn (k := 5) (by omega))⟩
    exact ⟨fun _ => hF _ (w_onR Q B (fun _ => g 1) (fun _ => g 0)), fun z => absurd z (nn (k := 0) (by omega)), fun z => absurd z (nn (k := 1) (by omega)), fun z => absurd z (nn (k := 2) (by omega)), fun z => absurd z (nn (k := 3) (by omega)), fun z => absurd z (nn (k := 4) (by omega)), fun z => absurd z (nn (k := 5) (by omega))⟩
theorem ar_gt {a : Int32} (ha : a < 0 ∨ nI 4 ≤ a) (h : ¬ a < 0) (h2 : ¬ 3 < a) : False := by
  rcases ha with z | z
  · exact h z
  · exact h2 (Int32.lt_of_lt_of_le (show (3 : Int32) < nI 4 by decide) z)
theorem ar_3 {p : Nat} (hp : p < 4) : ¬ (3 : Int32) < nI p := by
  rw [show (3 : Int32) = nI 3 from rfl, pz_lt (by omega) (by omega)]; omega
theorem q_yaku {a : Int32} {m : zm} (I : Inv m) {F : Prop → Prop} (hF : ∀ P, P → F P) {K : Int64 → Int64 → zm → Prop} (hK : ∀ r m', Inv m' → K r r m') : j_Table_yaku a m (fun r1 m1 => F (j_Model_yaku a m1 (fun r2 m2 => K r1 r2 m2))) := by
  have I' := I
  obtain ⟨S, R, Q, W⟩ := I
  rcases ar_or (n := 4) (by omega) a with ⟨p, hp, rfl⟩ | ha
  · refine w_isPlayer hp ⟨fun z => absurd z (by decide), fun _ => ⟨pz_in hp (by omega), hF _ ?_⟩⟩
    have wv := W.2.2.1 p hp
    refine ⟨fun z => absurd z (nI_n0 (by omega)), fun _ => ⟨fun z => absurd z (ar_3 hp), fun _ => ?_⟩⟩
    rw [pz_4m, nI_clamp (by omega), nI_clamp (by omega), show 13 + 5 * p + 4 = 17 + 5 * p from by omega, (R.y p hp).1]
    refine ⟨pz_in (by omega) (by omega), fun h => ⟨pz_in hp (by omega), ?_⟩, fun h => ?_⟩
    · show K _ (m.2 49 p) m
      rw [Q.y p hp]
      exact hK _ _ I'
    · have y0 : S.2.2 0 p = 0 := by
        apply Classical.byContradiction
        intro z
        have w2 := wv.2 z
        apply h
        rw [Q.g36 (by omega)]
        refine Eq.subst (motive := fun x => 0 ≤ x) (w2.2 0 (by omega)).symm ?_
        exact Int32.not_lt.mp w2.1
      rw [y0]
      exact hK _ _ I'
  · exact w_isPlayerF ha ⟨fun _ => hF _ ⟨fun _ => hK _ _ I', fun h => ⟨fun _ => hK _ _ I', fun h2 => (ar_gt ha h h2).elim⟩⟩, fun z => absurd rfl z⟩
theorem q_worth {a b : Int32} {m : zm} (I : Inv m) {F : Prop → Prop} (hF : ∀ P, P → F P) {K : Int32 → Int32 → zm → Prop} (hK : ∀ r m', Inv m' → K r r m') : j_Table_worth a b m (fun r1 m1 => F (j_Model_worth a b m1 (fun r2 m2 => K r1 r2 m2))) := by
  have I' := I
  obtain ⟨S, R, Q, W⟩ := I
  rcases ar_or (n := 4) (by omega) a with ⟨p, hp, rfl⟩ | ha
  · refine w_isPlayer hp ⟨fun z => absurd z (by decide), fun _ => ⟨pz_in hp (by omega), ?_⟩⟩
    have wv := W.2.2.1 p hp
    rw [pz_cmp0, nI_clamp (by omega), show 13 + 5 * p + 4 = 17 + 5 * p from by omega, (R.y p hp).1]
    refine ⟨fun h => ⟨pz_in hp (by omega), fun y5 h5 => ?_⟩, fun h => hF _ ?_⟩
    · obtain ⟨w1, w2⟩ := wv.2 h
      rw [h5]
      rcases ar_or (n := 4) (by omega) b with ⟨i, hi, rfl⟩ | hb
      · have g : ∀ i, i < 4 → j_Model_worth (nI p) (nI i) m (fun r2 m2 => K (S.2.1 33 (4 * p + i)) r2 m2) := by
          intro i hi
          refine ⟨fun z => absurd z (nI_n0 (by omega)), fun _ => ⟨fun z => absurd z (ar_3 hp), fun _ => ⟨fun z => absurd z (nI_n0 (by omega)), fun _ => ⟨fun z => absurd z (ar_3 hi), fun _ => ?_⟩⟩⟩⟩
          rw [pz_4m, nI_add, nI_clamp (by omega), nI_clamp (by omega)]
          refine ⟨pz_in (by omega) (by omega), fun _ => ⟨pz_in (by omega) (by omega), ?_⟩, fun z => ?_⟩
          · show K _ (m.1 48 (4 * p + i)) m
            rw [Q.g36 (by omega), w2 i hi]
            exact hK _ _ I'
          · exfalso
            apply z
            rw [Q.g36 (by omega)]
            refine Eq.subst (motive := fun x => 0 ≤ x) (w2 0 (by omega)).symm ?_
            exact Int32.not_lt.mp w1
        have e : ∀ i, i < 4 → m.1 (17 + 5 * p) i = S.2.1 33 (4 * p + i) := fun i hi => by rw [show 17 + 5 * p = 13 + 5 * p + 4 from by omega]; exact R.g33 hp hi
        revert i
        have nn : ∀ {i j : Nat}, i < 4 → j < 4 → ¬ i = j → ¬ nI i = nI j := fun hi hj e z => e ((nI_eq (by omega) (by omega)).mp z)
        intro i hi
        refine ⟨fun z => absurd z (ti_in (n := 3) (by omega) rfl (by omega)), fun z => ?_, fun z => ?_, fun z => ?_, fun z => ?_⟩
        · have z : i = 0 := (nI_eq (b := 0) (by omega) (by omega)).mp z
          subst z; rw [e 0 hi]; exact hF _ (g 0 hi)
        · have z : i = 1 := (nI_eq (b := 1) (by omega) (by omega)).mp z
          subst z; rw [e 1 hi]; exact hF _ (g 1 hi)
        · have z : i = 2 := (nI_eq (b := 2) (by omega) (by omega)).mp z
          subst z; rw [e 2 hi]; exact hF _ (g 2 hi)
        · have z : i = 3 := (nI_eq (b := 3) (by omega) (by omega)).mp z
          subst z; rw [e 3 hi]; exact hF _ (g 3 hi)
      · have nn : ∀ {k}, k < 4 → ¬ b = nI k := fun h => ar_ne (by omega) hb h
        exact ⟨fun _ => hF _ ⟨fun z => absurd z (nI_n0 (by omega)), fun _ => ⟨fun z => absurd z (ar_3 hp), fun _ => ⟨fun _ => hK _ _ I', fun h => ⟨fun _ => hK _ _ I', fun h2 => (ar_gt hb h h2).elim⟩⟩⟩⟩, fun z => absurd z (nn (k := 0) (by omega)), fun z => absurd z (nn (k := 1) (by omega)), fun z => absurd z (nn (k := 2) (by omega)), fun z => absurd z (nn (k := 3) (by omega))⟩
    · have v0 := wv.1 h
      refine ⟨fun z => absurd z (nI_n0 (by omega)), fun _ => ⟨fun z => absurd z (ar_3 hp), fun _ => ⟨fun _ => hK _ _ I', fun _ => ⟨fun _ => hK _ _ I', fun _ => ?_⟩⟩⟩⟩
      rw [pz_4m, nI_clamp (by omega)]
      refine ⟨pz_in (by omega) (by omega), fun z => ?_, fun _ => hK _ _ I'⟩
      rw [Q.g36 (by omega), v0] at z
      exact absurd z (by decide)
  · exact w_isPlayerF ha ⟨fun _ => hF _ ⟨fun _ => hK _ _ I', fun h => ⟨fun _ => hK _ _ I', fun h2 => (ar_gt ha h h2).elim⟩⟩, fun z => absurd rfl z⟩
