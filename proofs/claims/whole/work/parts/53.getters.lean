/-! THE METHODS THAT ONLY TELL -/
theorem Inv.kF {m m' : zm} {S : zS} (R : Rc m S m) (Q : Rr m S m) (W : Wf S) (e : eqF m m') : Inv m' :=
  ⟨S, R.re (fun q j hq => e q j (by rintro (z | z) <;> omega)), ⟨(Q.keep e).1, (Q.keep e).2.1, fun _ _ _ => ⟨rfl, rfl⟩⟩, W⟩
theorem q_phase {m : zm} (I : Inv m) {K : Int32 → Int32 → zm → Prop} (hK : ∀ r m', Inv m' → K r r m') : j_Table_phase m (fun r1 m1 => j_Model_phase m1 (fun r2 m2 => K r1 r2 m2)) := by
  have I' := I
  obtain ⟨S, R, Q, W⟩ := I
  show K (m.1 0 3) (m.1 33 3) m
  rw [R.g11, Q.g11]
  exact hK _ _ I'
theorem q_state {m : zm} (I : Inv m) {K : Int32 → Int32 → zm → Prop} (hK : ∀ r m', Inv m' → K r r m') : j_Table_state m (fun r1 m1 => j_Model_state m1 (fun r2 m2 => K r1 r2 m2)) := by
  have I' := I
  obtain ⟨S, R, Q, W⟩ := I
  show K (m.1 11 1) (m.1 33 1) m
  rw [R.g31, Q.g31]
  exact hK _ _ I'
theorem q_who {m : zm} (I : Inv m) {K : Int32 → Int32 → zm → Prop} (hK : ∀ r m', Inv m' → K r r m') : j_Table_who m (fun r1 m1 => j_Model_who m1 (fun r2 m2 => K r1 r2 m2)) := by
  have I' := I
  obtain ⟨S, R, Q, W⟩ := I
  have B := W.1
  have e1 : (m.1 0 3 = 1) = (S.1 11 0 = 1) := ph_eq B R.g11 1 (by omega)
  have e2 : (m.1 0 3 = 2) = (S.1 11 0 = 2) := ph_eq B R.g11 2 (by omega)
  have f1 : (m.1 33 3 = 1) = (S.1 11 0 = 1) := ph_eq B Q.g11 1 (by omega)
  have f2 : (m.1 33 3 = 2) = (S.1 11 0 = 2) := ph_eq B Q.g11 2 (by omega)
  have k1 : K (m.1 0 8) (m.1 33 4) m := by rw [R.g14, Q.g14]; exact hK _ _ I'
  simp only [j_Table_who, j_Table_who_L16, j_Table_who_L24, j_Model_who, j_Model_who_L16, j_Model_who_L24, e1, e2, f1, f2]
  refine ⟨fun h => ⟨fun _ => k1, fun z => absurd h z⟩, fun h => ⟨fun h2 => ⟨fun z => absurd z h, fun _ => ⟨fun _ => hK _ _ I', fun z => absurd z h2⟩⟩, fun h2 => ⟨fun z => absurd z h, fun _ => ⟨fun z => absurd h2 z, fun _ => k1⟩⟩⟩⟩
theorem nI_p1 {n : Nat} (h : 0 < n) : nI n - 1 = nI (n - 1) := nI_dec h
theorem q_drawn {m : zm} (I : Inv m) {K : Int32 → Int32 → zm → Prop} (hK : ∀ r m', Inv m' → K r r m') : j_Table_drawn m (fun r1 m1 => j_Model_drawn m1 (fun r2 m2 => K r1 r2 m2)) := by
  have I' := I
  obtain ⟨S, R, Q, W⟩ := I
  have B := W.1
  have e1 : (m.1 0 3 = 1) = (S.1 11 0 = 1) := ph_eq B R.g11 1 (by omega)
  have e2 : (m.1 0 3 = 2) = (S.1 11 0 = 2) := ph_eq B R.g11 2 (by omega)
  have f1 : (m.1 33 3 = 1) = (S.1 11 0 = 1) := ph_eq B Q.g11 1 (by omega)
  have f2 : (m.1 33 3 = 2) = (S.1 11 0 = 2) := ph_eq B Q.g11 2 (by omega)
  simp only [j_Table_drawn, j_Table_drawn_L16, j_Table_drawn_L24, j_Model_drawn, j_Model_drawn_L31, e1, e2, f1, f2]
  refine ⟨fun h => ⟨fun z => absurd h z, fun _ => ?_⟩, fun h => ⟨fun h2 => ⟨fun _ => ⟨fun _ => hK _ _ I', fun z => absurd z h2⟩, fun z => absurd z h⟩, fun h2 => ⟨fun _ => ⟨fun z => absurd h2 z, fun _ => ?_⟩, fun z => absurd z h⟩⟩⟩
  · have w1 := W.2.2.2.2.2.2.2.1 h
    rw [R.g21, Q.g26, w1.2.2.2.1]
    exact hK _ _ I'
  · have w2 := (W.2.2.2.2.2.2.2.2 h2).1
    rw [R.g21, Q.g27, w2.2.2.2.2.1, nI_p1 w2.2.2.2.1]
    exact hK _ _ I'
theorem q_options {a : Int32} {m : zm} (I : Inv m) {F : Prop → Prop} (hF : ∀ P, P → F P) {K : Int32 → Int32 → zm → Prop} (hK : ∀ r m', Inv m' → K r r m') : j_Table_options a m (fun r1 m1 => F (j_Model_options a m1 (fun r2 m2 => K r1 r2 m2))) := by
  have I' := I
  obtain ⟨S, R, Q, W⟩ := I
  have B := W.1
  have e2 : (m.1 0 3 = 2) = (S.1 11 0 = 2) := ph_eq B R.g11 2 (by omega)
  have f2 : (m.1 33 3 = 2) = (S.1 11 0 = 2) := ph_eq B Q.g11 2 (by omega)
  rcases ar_or (n := 4) (by omega) a with ⟨p, hp, rfl⟩ | ha
  · refine w_isPlayer hp ⟨fun _ => ?_, fun z => absurd z (by decide)⟩
    have e3 : (nI p ≤ (3 : Int32)) = (p ≤ 3) := pz_le (b := 3) (by omega) (by omega)
    have n0 : ¬ nI p < 0 := nI_n0 (by omega)
    simp only [j_Table_options_L30, j_Model_options, j_Model_options_L31, j_Model_options_L9, e2, f2, nI_clamp (show p < 2 ^ 31 by omega), e3]
    refine ⟨fun h => hF _ ⟨fun z => absurd z n0, fun _ => ⟨fun _ => ⟨fun _ => hK _ _ I', fun z => absurd z h⟩, fun z => absurd (by omega) z⟩⟩, fun h => ⟨pz_in hp (by omega), hF _ ⟨fun z => absurd z n0, fun _ => ⟨fun _ => ⟨fun z => absurd h z, fun _ => ⟨pz_in hp (by omega), ?_⟩⟩, fun z => absurd (by omega) z⟩⟩⟩⟩
    rw [R.g9 hp, Q.g9 hp]
    exact hK _ _ I'
  · refine w_isPlayerF ha ⟨fun z => absurd rfl z, fun _ => hF _ ⟨fun _ => hK _ _ I', fun h => ⟨fun h2 => ?_, fun _ => hK _ _ I'⟩⟩⟩
    exfalso
    rcases ha with z | z
    · exact h z
    · exact absurd (Int32.le_trans z h2) (by decide)
theorem q_points {a : Int32} {m : zm} (I : Inv m) {F : Prop → Prop} (hF : ∀ P, P → F P) {K : Int32 → Int32 → zm → Prop} (hK : ∀ r m', Inv m' → K r r m') : j_Table_points a m (fun r1 m1 => F (j_Model_points a m1 (fun r2 m2 => K r1 r2 m2))) := by
  have I' := I
  obtain ⟨S, R, Q, W⟩ := I
  rcases ar_or (n := 4) (by omega) a with ⟨p, hp, rfl⟩ | ha
  · refine w_isPlayer hp ⟨fun z => absurd z (by decide), fun _ => ⟨pz_in hp (by omega), hF _ ?_⟩⟩
    have e3 : (nI p ≤ (3 : Int32)) = (p ≤ 3) := pz_le (b := 3) (by omega) (by omega)
    have n0 : ¬ nI p < 0 := nI_n0 (by omega)
    simp only [j_Model_points, j_Model_points_L19, j_Model_points_L9, nI_clamp (show p < 2 ^ 31 by omega), e3]
    refine ⟨fun z => absurd z n0, fun _ => ⟨fun _ => ⟨pz_in hp (by omega), ?_⟩, fun z => absurd (by omega) z⟩⟩
    rw [R.g30 hp, Q.g30 hp]
    exact hK _ _ I'
  · refine w_isPlayerF ha ⟨fun _ => hF _ ⟨fun _ => hK _ _ I', fun h => ⟨fun h2 => ?_, fun _ => hK _ _ I'⟩⟩, fun z => absurd rfl z⟩
    exfalso
    rcases ha with z | z
    · exact h z
    · exact absurd (Int32.le_trans z h2) (by decide)
theorem q_concealed {a b : Int32} {m : zm} (I : Inv m) {F : Prop → Prop} (hF : ∀ P, P → F P) {K : Int32 → Int32 → zm → Prop} (hK : ∀ r m', Inv m' → K r r m') : j_Table_concealed a b m (fun r1 m1 => F (j_Model_concealed a b m1 (fun r2 m2 => K r1 r2 m2))) := by
  have I' := I
  obtain ⟨S, R, Q, W⟩ := I
  have B := W.1
  have rz : ∀ {P : Prop}, (0 : Int32) = 0 → P → ((0 : Int32) = 0 → P) ∧ (¬ (0 : Int32) = 0 → False) := fun _ p => ⟨fun _ => p, fun z => z rfl⟩
  refine w_shown R B (fun hs => ⟨fun z => absurd z (by decide), fun _ => ?_⟩) (fun hs => ⟨fun _ => hF _ ?_, fun z => absurd rfl z⟩)
  · rcases ar_or (n := 4) (by omega) a with ⟨p, hp, rfl⟩ | ha
    · refine w_isPlayer hp ⟨fun z => absurd z (by decide), fun _ => ?_⟩
      rcases ar_or (n := 34) (by omega) b with ⟨k, hk, rfl⟩ | hb
      · refine w_isKind hk ⟨fun z => absurd z (by decide), fun _ => ⟨pz_in hp (by omega), pz_in hk (by omega), hF _ ?_⟩⟩
        refine w_shows Q B hp (fun _ => ⟨fun z => absurd z (by decide), fun _ => ⟨fun z => absurd z (nI_n0 (by omega)), fun _ => ⟨fun _ => ?_, fun z => absurd ?_ z⟩⟩⟩) (fun z => absurd hs z)
        · rw [pz_34, nI_clamp (by omega), nI_clamp (by omega), nI_clamp (by omega), R.g1 hp hk]
          refine ⟨pz_in (by omega) (by omega), ?_⟩
          show K _ (m.1 36 (34 * p + k)) m
          rw [Q.g1 hp hk]
          exact hK _ _ I'
        · rw [show (33 : Int32) = nI 33 from rfl, pz_le (by omega) (by omega)]; omega
      · refine w_isKindF hb ⟨fun _ => hF _ ?_, fun z => absurd rfl z⟩
        refine w_shows Q B hp (fun _ => ⟨fun z => absurd z (by decide), fun _ => ⟨fun _ => hK _ _ I', fun h => ⟨fun h2 => ?_, fun _ => hK _ _ I'⟩⟩⟩) (fun z => absurd hs z)
        exfalso
        rcases hb with z | z
        · exact h z
        · exact absurd (Int32.le_trans z h2) (by decide)
    · exact w_isPlayerF ha ⟨fun _ => hF _ (w_showsF ha ⟨fun _ => hK _ _ I', fun z => absurd rfl z⟩), fun z => absurd rfl z⟩
  · rcases ar_or (n := 4) (by omega) a with ⟨p, hp, rfl⟩ | ha
    · exact w_shows Q B hp (fun z => absurd z hs) (fun _ => ⟨fun _ => hK _ _ I', fun z => absurd rfl z⟩)
    · exact w_showsF ha ⟨fun _ => hK _ _ I', fun z => absurd rfl z⟩
theorem q_meld {a b : Int32} {m : zm} (I : Inv m) {F : Prop → Prop} (hF : ∀ P, P → F P) {K : Int32 → Int32 → zm → Prop} (hK : ∀ r m', Inv m' → K r r m') : j_Table_meld a b m (fun r1 m1 => F (j_Model_meld a b m1 (fun r2 m2 => K r1 r2 m2))) := by
  have I' := I
  obtain ⟨S, R, Q, W⟩ := I
  have B := W.1
  refine w_shown R B (fun hs => ⟨fun z => absurd z (by decide), fun _ => ?_⟩) (fun hs => ⟨fun _ => hF _ ?_, fun z => absurd rfl z⟩)
  · rcases ar_or (n := 4) (by omega) a with ⟨p, hp, rfl⟩ | ha
    · refine w_isPlayer hp ⟨fun _ => ⟨pz_in hp (by omega), fun y6 h6 => ?_⟩, fun z => absurd z (by decide)⟩
      rw [nI_clamp (by omega)] at h6
      have b2 := B.b2 p
      rw [h6, R.g2 hp]
      rcases ar_or (n := S.1 2 p) (by omega) b with ⟨i, hi, rfl⟩ | hb
      · refine ⟨fun z => absurd z (nI_n0 (by omega)), fun _ => ⟨fun z => ?_, fun _ => ⟨pz_in (by omega) (by omega), hF _ ?_⟩⟩⟩
        · rw [pz_le (by omega) (by omega)] at z; omega
        · refine w_shows Q B hp (fun _ => ⟨fun z => absurd z (by decide), fun _ => ⟨fun z => absurd z (nI_n0 (by omega)), fun _ => ⟨pz_in hp (by omega), ?_, ?_⟩⟩⟩) (fun z => absurd hs z)
          · intro _
            rw [pz_4, nI_clamp (by omega), nI_clamp (by omega), R.g3 hp (by omega)]
            refine ⟨pz_in (by omega) (by omega), pz_in (by omega) (by omega), ?_⟩
            show K _ (4 * m.1 38 (4 * p + i) + m.1 39 (4 * p + i)) m
            rw [Q.g22 (by omega), Q.g23 (by omega), (W.2.1 _).1, (W.2.1 _).2.1, pz_4, show 4 * (S.1 3 (4 * p + i) / 4) + S.1 3 (4 * p + i) % 4 = S.1 3 (4 * p + i) from by omega]
            exact hK _ _ I'
          · intro z
            rw [nI_clamp (by omega), Q.g2 hp, pz_lt (by omega) (by omega)] at z
            omega
      · have g : ∀ r m', K r r m' → j_Model_meld (nI p) b m (fun r2 m2 => K (-1) r2 m2) := by
          intro _ _ _
          refine w_shows Q B hp (fun _ => ⟨fun z => absurd z (by decide), fun _ => ⟨fun _ => hK _ _ I', fun h => ⟨pz_in hp (by omega), fun h2 => ?_, fun _ => hK _ _ I'⟩⟩⟩) (fun z => absurd hs z)
          exfalso
          rw [nI_clamp (by omega), Q.g2 hp] at h2
          rcases hb with z | z
          · exact h z
          · exact absurd h2 (Int32.not_lt.mpr z)
        refine ⟨fun _ => hF _ (g _ _ (hK (-1) _ I')), fun h => ⟨fun _ => hF _ (g _ _ (hK (-1) _ I')), fun h2 => (hb.elim h h2).elim⟩⟩
    · exact w_isPlayerF ha ⟨fun z => absurd rfl z, fun _ => hF _ (w_showsF ha ⟨fun _ => hK _ _ I', fun z => absurd rfl z⟩)⟩
  · rcases ar_or (n := 4) (by omega) a with ⟨p, hp, rfl⟩ | ha
    · exact w_shows Q B hp (fun z => absurd z hs) (fun _ => ⟨fun _ => hK _ _ I', fun z => absurd rfl z⟩)
    · exact w_showsF ha ⟨fun _ => hK _ _ I', fun z => absurd rfl z⟩
theorem q_river {a b : Int32} {m : zm} (I : Inv m) {F : Prop → Prop} (hF : ∀ P, P → F P) {K : Int32 → Int32 → zm → Prop} (hK : ∀ r m', Inv m' → K r r m') : j_Table_river a b m (fun r1 m1 => F (j_Model_river a b m1 (fun r2 m2 => K r1 r2 m2))) := by
  have I' := I
  obtain ⟨S, R, Q, W⟩ := I
  have B := W.1
  refine w_shown R B (fun hs => ⟨fun z => absurd z (by decide), fun _ => ?_⟩) (fun hs => ⟨fun _ => hF _ ?_, fun z => absurd rfl z⟩)
  · rcases ar_or (n := 4) (by omega) a with ⟨p, hp, rfl⟩ | ha
    · refine w_isPlayer hp ⟨fun _ => ⟨pz_in hp (by omega), fun y6 h6 => ?_⟩, fun z => absurd z (by decide)⟩
      rw [nI_clamp (by omega)] at h6
      have b2 := B.b4 p
      rw [h6, R.g4 hp]
      rcases ar_or (n := S.1 4 p) (by omega) b with ⟨i, hi, rfl⟩ | hb
      · refine ⟨fun z => absurd z (nI_n0 (by omega)), fun _ => ⟨fun z => ?_, fun _ => ⟨pz_in (by omega) (by omega), hF _ ?_⟩⟩⟩
        · rw [pz_le (by omega) (by omega)] at z; omega
        · refine w_shows Q B hp (fun _ => ⟨fun z => absurd z (by decide), fun _ => ⟨fun z => absurd z (nI_n0 (by omega)), fun _ => ⟨pz_in hp (by omega), ?_, ?_⟩⟩⟩) (fun z => absurd hs z)
          · intro _
            rw [pz_100, nI_clamp (by omega), nI_clamp (by omega), R.g5 hp (by omega)]
            refine ⟨pz_in (by omega) (by omega), ?_⟩
            show K _ (m.1 41 (100 * p + i)) m
            rw [Q.g5 hp (by omega)]
            exact hK _ _ I'
          · intro z
            rw [nI_clamp (by omega), Q.g4 hp, pz_lt (by omega) (by omega)] at z
            omega
      · have g : j_Model_river (nI p) b m (fun r2 m2 => K (-1) r2 m2) := by
          refine w_shows Q B hp (fun _ => ⟨fun z => absurd z (by decide), fun _ => ⟨fun _ => hK _ _ I', fun h => ⟨pz_in hp (by omega), fun h2 => ?_, fun _ => hK _ _ I'⟩⟩⟩) (fun z => absurd hs z)
          exfalso
          rw [nI_clamp (by omega), Q.g4 hp] at h2
          rcases hb with z | z
          · exact h z
          · exact absurd h2 (Int32.not_lt.mpr z)
        refine ⟨fun _ => hF _ g, fun h => ⟨fun _ => hF _ g, fun h2 => (hb.elim h h2).elim⟩⟩
    · exact w_isPlayerF ha ⟨fun z => absurd rfl z, fun _ => hF _ (w_showsF ha ⟨fun _ => hK _ _ I', fun z => absurd rfl z⟩)⟩
  · rcases ar_or (n := 4) (by omega) a with ⟨p, hp, rfl⟩ | ha
    · exact w_shows Q B hp (fun z => absurd z hs) (fun _ => ⟨fun _ => hK _ _ I', fun z => absurd rfl z⟩)
    · exact w_showsF ha ⟨fun _ => hK _ _ I', fun z => absurd rfl z⟩
theorem q_waits {a : Int32} {m : zm} (I : Inv m) {F : Prop → Prop} (hF : ∀ P, P → F P) {K : Int64 → Int64 → zm → Prop} (hK : ∀ r m', Inv m' → K r r m') : j_Table_waits a m (fun r1 m1 => F (j_Model_waits a m1 (fun r2 m2 => K r1 r2 m2))) := by
  have I' := I
  obtain ⟨S, R, Q, W⟩ := I
  have B := W.1
  refine w_shown R B (fun hs => ⟨fun z => absurd z (by decide), fun _ => ?_⟩) (fun hs => ⟨fun _ => hF _ ?_, fun z => absurd rfl z⟩)
  · rcases ar_or (n := 4) (by omega) a with ⟨p, hp, rfl⟩ | ha
    · refine w_isPlayer hp ⟨fun z => absurd z (by decide), fun _ => ⟨pz_in hp (by omega), ?_⟩⟩
      rw [nI_clamp (by omega)]
      refine w_Player_findWaits (R.pP B hp) (hF _ ?_)
      exact w_shows Q B hp (fun _ => ⟨fun z => absurd z (by decide), fun _ => w_Model_waitsOf hp (Q.rP B W.2.1 hp) (cf_5 B) (W.2.2.2.2.2.1 hs p hp) (fun m' e => hK _ _ (Inv.kF R Q W e))⟩) (fun z => absurd hs z)
    · exact w_isPlayerF ha ⟨fun _ => hF _ (w_showsF ha ⟨fun _ => hK _ _ I', fun z => absurd rfl z⟩), fun z => absurd rfl z⟩
  · rcases ar_or (n := 4) (by omega) a with ⟨p, hp, rfl⟩ | ha
    · exact w_shows Q B hp (fun z => absurd z hs) (fun _ => ⟨fun _ => hK _ _ I', fun z => absurd rfl z⟩)
    · exact w_showsF ha ⟨fun _ => hK _ _ I', fun z => absurd rfl z⟩
theorem df_iff {S : zS} {p k : Nat} : df S p k = true ↔ ∃ i, i < S.1 4 p ∧ rf_ S p i = k := bb_iff
theorem q_furiten {a : Int32} {m : zm} (I : Inv m) {F : Prop → Prop} (hF : ∀ P, P → F P) {K : Int32 → Int32 → zm → Prop} (hK : ∀ r m', Inv m' → K r r m') : j_Table_furiten a m (fun r1 m1 => F (j_Model_furiten a m1 (fun r2 m2 => K r1 r2 m2))) := by
  have I' := I
  obtain ⟨S, R, Q, W⟩ := I
  have B := W.1
  refine w_shown R B (fun hs => ⟨fun z => absurd z (by decide), fun _ => ?_⟩) (fun hs => ⟨fun _ => ⟨Or.inl rfl, hF _ ?_⟩, fun z => absurd rfl z⟩)
  · rcases ar_or (n := 4) (by omega) a with ⟨p, hp, rfl⟩ | ha
    · refine w_isPlayer hp ⟨fun z => absurd z (by decide), fun _ => ⟨pz_in hp (by omega), ?_⟩⟩
      rw [nI_clamp (by omega)]
      have b8 := B.b8 p
      have hd : m.2 (13 + 5 * p) 5 = lN (mk_ (df S p) 34) := by rw [(R.y p hp).2]; exact (W.2.2.2.1 p hp).1
      refine w_Player_isFuriten (R.pP B hp) (R.g8 hp) (by omega) hd (fun hf => ⟨fun z => absurd z (by decide), fun _ => ⟨Or.inr rfl, hF _ ?_⟩⟩) (fun hf => ⟨fun _ => ⟨Or.inl rfl, hF _ ?_⟩, fun z => absurd rfl z⟩)
      · exact w_shows Q B hp (fun _ => ⟨fun z => absurd z (by decide), fun _ => w_Model_isFuriten hp (Q.rP B W.2.1 hp) (cf_5 B) (W.2.2.2.2.2.1 hs p hp) (Q.rV B hp) (Q.g8 hp) (by omega) (fun k _ => df_iff) (fun _ m' e => ⟨fun z => absurd z (by decide), fun _ => ⟨Or.inr rfl, hK _ _ (Inv.kF R Q W e)⟩⟩) (fun z => absurd hf z)⟩) (fun z => absurd hs z)
      · exact w_shows Q B hp (fun _ => ⟨fun z => absurd z (by decide), fun _ => w_Model_isFuriten hp (Q.rP B W.2.1 hp) (cf_5 B) (W.2.2.2.2.2.1 hs p hp) (Q.rV B hp) (Q.g8 hp) (by omega) (fun k _ => df_iff) (fun z => absurd z hf) (fun _ m' e => ⟨fun _ => ⟨Or.inl rfl, hK _ _ (Inv.kF R Q W e)⟩, fun z => absurd rfl z⟩)⟩) (fun z => absurd hs z)
    · exact w_isPlayerF ha ⟨fun _ => ⟨Or.inl rfl, hF _ (w_showsF ha ⟨fun _ => ⟨Or.inl rfl, hK _ _ I'⟩, fun z => absurd rfl z⟩)⟩, fun z => absurd rfl z⟩
  · rcases ar_or (n := 4) (by omega) a with ⟨p, hp, rfl⟩ | ha
    · exact w_shows Q B hp (fun z => absurd z hs) (fun _ => ⟨fun _ => ⟨Or.inl rfl, hK _ _ I'⟩, fun z => absurd rfl z⟩)
    · exact w_showsF ha ⟨fun _ => ⟨Or.inl rfl, hK _ _ I'⟩, fun z => absurd rfl z⟩
