/-! THE SAME BY THE REFERENCE -/
theorem r_win {m m0 : zm} {S : zS} {K : Int32 → zm → Prop} (J : Jg) (R : Rr m S m0) (W : Wf S) (h11 : S.1 11 0 = 1) (h21 : 0 < S.1 21 0) (kN : (jd S (S.1 14 0) true).2.2.2 = 0 → ∀ m', Rr m' S m0 → K (-1) m') (kY : ¬ (jd S (S.1 14 0) true).2.2.2 = 0 → ∀ m', Rr m' (ehS (tzS S (S.1 14 0)) (decide (S.1 14 0 = S.1 12 0)) false) m0 → K (nI (jd S (S.1 14 0) true).2.1) m') : j_Model_win m K := by
  have B := W.1
  have b14 := B.b14 0
  have b12 := B.b12 0
  have b21 := B.b21 0
  have hp : S.1 14 0 < 4 := by omega
  have h26 := (W.2.2.2.2.2.2.2.1 h11).2.2.2.1
  have et : S.1 21 0 = til S + 1 := by unfold til; omega
  unfold j_Model_win
  refine w_isTurn R B (fun _ => ⟨fun z => absurd z (by decide), fun _ => ?_⟩) (fun z => absurd h11 z)
  rw [show m.1 33 18 = nI (til S) from by rw [R.g26, h26]; exact g9' et, R.g14]
  refine ⟨fun z => absurd z (nI_n0 (by have := til_lt B h21; omega)), fun _ => ?_⟩
  refine J.2.1 S (S.1 14 0) true m m0 _ R (Wj_win W h11 h21) (fun m3 R hc => ?_)
  unfold yb
  by_cases hy : (jd S (S.1 14 0) true).2.2.2 = 0
  · rw [if_pos hy]
    exact ⟨fun z => absurd rfl z, fun _ => kN hy m3 R⟩
  · rw [if_neg hy]
    refine ⟨fun _ => ?_, fun z => absurd z (by decide)⟩
    obtain ⟨c0, c1, c2, c4⟩ := hc hy
    intro y5 hy5
    rw [R.g35] at hy5
    subst hy5
    refine ⟨5, ?_⟩
    have main : ∀ n i m, i + n = 4 → Rr m (lpS S (S.1 14 0) S i) m0 → (∀ j, 46 ≤ j → m.1 33 j = m3.1 33 j) → m.2 33 49 = m3.2 33 49 → j_Model_win_L44 K (n + 1) (smd S (S.1 14 0) i) (nI i) m := by
      intro n
      induction n with
      | zero =>
        intro i m hi R fr fl
        have e4 : i = 4 := by omega
        subst e4
        rw [j_Model_win_L44, show ((4 : Int32) ≤ nI 4) = True from propext ⟨fun _ => trivial, fun _ => by decide⟩]
        refine ⟨fun _ m6 h6 => ?_, fun z => absurd trivial z⟩
        have fr6 : ∀ j, 46 ≤ j → m6.1 33 j = m3.1 33 j := fun j hj => by rw [h6, pz_rI, if_neg (by omega)]; exact fr j hj
        have fl6 : m6.2 33 49 = m3.2 33 49 := by rw [h6, pz_rI2]; exact fl
        have R := R.wi 35 0 h6 rfl (by omega) rfl rfl
        rw [show m6.1 33 4 = nI (S.1 14 0) from R.g14]
        refine w_keep R hp ((fr6 46 (by omega)).trans c0) ((fr6 47 (by omega)).trans c1) ((fr6 48 (by omega)).trans c2) (fl6.trans c4) (fun m7 R fr7 => ?_)
        have R := (((R.xi 33 (4 * S.1 14 0 + 0) (nI (jd S (S.1 14 0) true).2.1) (fun _ h => h)).xi 33 (4 * S.1 14 0 + 1) (nI (jd S (S.1 14 0) true).2.2.1) (fun _ h => h)).xi 33 (4 * S.1 14 0 + 2) (nI (jd S (S.1 14 0) true).1) (fun _ h => h)).xi 33 (4 * S.1 14 0 + 3) (smd S (S.1 14 0) 4) (fun _ h => h)
        have R : Rr m7 (tzS S (S.1 14 0)) m0 := by
          refine Eq.mp (congrArg (fun T => Rr m7 T m0) ?_) R
          have lpi : ∀ (A : zS) a j, ¬ a = 30 → (lpS S (S.1 14 0) A 4).2.1 a j = A.2.1 a j := fun A a j h => if_neg (fun z => h z.1)
          have lpj : ∀ (A : zS) j, ¬ j = S.1 14 0 → j < 4 → (lpS S (S.1 14 0) A 4).2.1 30 j = A.2.1 30 j - dud S (S.1 14 0) j := fun A j h h2 => if_pos ⟨rfl, h2, h⟩
          have lpp : ∀ (A : zS), (lpS S (S.1 14 0) A 4).2.1 30 (S.1 14 0) = A.2.1 30 (S.1 14 0) := fun A => lp_30p S _ A
          refine tz_c rfl (fun a j => rfl) (fun j => ?_) (fun a j ha => ?_) (fun j => ?_) (fun a j n0 n1 n2 n3 => ?_)
          · simp only [ui_2, uy_2]
            by_cases j1 : j = S.1 14 0
            · simp [j1, lpp]
            · by_cases j2 : j < 4
              · simp [j1, j2, lpj, ui_2, uy_2]
              · simp [j1, j2]
                rw [show (lpS S (S.1 14 0) _ 4).2.1 30 j = _ from lp_30 S _ _ (by omega)]
          · simp only [ui_2, uy_2]
            by_cases jp : j / 4 = S.1 14 0
            · rcases (show j = 4 * S.1 14 0 + 0 ∨ j = 4 * S.1 14 0 + 1 ∨ j = 4 * S.1 14 0 + 2 ∨ j = 4 * S.1 14 0 + 3 by omega) with e | e | e | e <;> subst e <;> rcases ha with ha | ha <;> subst ha
              · simp [tv_, jp, lpi, ui_2, uy_2]
              · simp [tv_, jp, lpi, ui_2, uy_2]
              · simp [tv_, jp, lpi, ui_2, uy_2, show (4 * S.1 14 0 + 1) % 4 = 1 by omega]
              · simp [tv_, jp, lpi, ui_2, uy_2, show (4 * S.1 14 0 + 1) % 4 = 1 by omega]
              · simp [tv_, jp, lpi, ui_2, uy_2, show (4 * S.1 14 0 + 2) % 4 = 2 by omega]
              · simp [tv_, jp, lpi, ui_2, uy_2, show (4 * S.1 14 0 + 2) % 4 = 2 by omega]
              · simp [tv_, jp, lpi, ui_2, uy_2, show (4 * S.1 14 0 + 3) % 4 = 3 by omega]
              · simp [tv_, jp, lpi, ui_2, uy_2, show (4 * S.1 14 0 + 3) % 4 = 3 by omega]
            · have n0 : ¬ j = 4 * S.1 14 0 := by omega
              have n1 : ¬ j = 4 * S.1 14 0 + 1 := by omega
              have n2 : ¬ j = 4 * S.1 14 0 + 2 := by omega
              have n3 : ¬ j = 4 * S.1 14 0 + 3 := by omega
              rcases ha with ha | ha <;> subst ha <;> simp [jp, n0, n1, n2, n3, lpi, ui_2, uy_2]
          · simp [lpi, ui_2, uy_2]
          · simp [n0, n1, n2, n3, lpi, ui_2, uy_2]
        have Bt : Bd (tzS S (S.1 14 0)) := B
        rw [show m7.1 33 4 = nI (S.1 14 0) from R.g14, show m7.1 33 5 = nI (S.1 12 0) from R.g12, pz_eq (by omega) (by omega)]
        have l168 : ∀ b, decide (S.1 14 0 = S.1 12 0) = b → j_Model_win_L168 K (bI b) (bI b) m7 := by
          intro b hb
          unfold j_Model_win_L168
          have := w_end (st := b) (mo := false) (K := fun m14 => K (m14.1 33 46) m14) R Bt (fun m8 R fr8 => by
            rw [fr8 46 (by omega), fr7 46 (by omega), fr6 46 (by omega), c0]
            rw [← hb] at R
            exact kY hy m8 R)
          rw [Bool.or_false] at this
          exact this
        unfold j_Model_win_L152
        rw [show m7.1 33 4 = nI (S.1 14 0) from R.g14, show m7.1 33 5 = nI (S.1 12 0) from R.g12, pz_eq (by omega) (by omega)]
        exact ⟨fun q => ⟨fun _ => l168 false (decide_eq_false q), fun q2 => absurd q2 q⟩, fun q => ⟨fun q2 => absurd q q2, fun _ => l168 true (decide_eq_true q)⟩⟩
      | succ n ih =>
        intro i m hi R fr fl
        have hi4 : i < 4 := by omega
        rw [j_Model_win_L44, show ((4 : Int32) ≤ nI i) = (4 ≤ i) from pz_le (a := 4) (by omega) (by omega), show m.1 33 4 = nI (S.1 14 0) from R.g14, show m.1 33 5 = nI (S.1 12 0) from R.g12, pz_eq (by omega) (by omega), pz_eq (by omega) (by omega), pz_eq (by omega) (by omega)]
        have g48 : m.1 33 48 = nI (jd S (S.1 14 0) true).1 := (fr 48 (by omega)).trans c2
        have l89 : ¬ i = S.1 14 0 → ∀ t0 : Int32, t0 = (if S.1 14 0 = S.1 12 0 ∨ i = S.1 12 0 then 2 else 1) * nI (jd S (S.1 14 0) true).1 → j_Model_win_L89 (j_Model_win_L44 K (n + 1)) K (smd S (S.1 14 0) i) (nI i) t0 m := by
          intro hne t0 ht0
          unfold j_Model_win_L89 j_Model_rounded
          intro y10 hy10
          have ey : y10 = dud S (S.1 14 0) i := by
            rw [hy10, show m.1 33 7 = S.2.1 34 0 from R.g34, ht0]
            rfl
          subst ey
          rw [nI_clamp (by omega), R.g30 hi4, lp_30 S _ S (Nat.le_refl i)]
          refine ⟨pz_in hi4 (by omega), pz_in hi4 (by omega), fun m1 h1 y12 hy12 y13 hy13 => ?_⟩
          have fr1 : ∀ j, 46 ≤ j → m1.1 33 j = m3.1 33 j := fun j hj => by rw [h1, pz_rI, if_neg (by omega)]; exact fr j hj
          have fl1 : m1.2 33 49 = m3.2 33 49 := by rw [h1, pz_rI2]; exact fl
          have R := R.wi 30 i h1 hi4 (by omega) rfl rfl
          rw [hy12, hy13, nI_1]
          rw [lp_s S _ S hne] at R
          have := ih (i + 1) m1 (by omega) R fr1 fl1
          rw [smd, if_neg hne] at this
          exact this
        unfold j_Model_win_L76
        rw [g48]
        refine ⟨fun z => by omega, fun _ => ⟨fun e y18 hy18 => ?_, fun hne => ⟨fun e => l89 hne _ (by rw [if_pos (Or.inl e)]), fun e => ⟨fun e2 => l89 hne _ (by rw [if_neg (by omega), one_m]), fun e2 => l89 hne _ (by rw [if_pos (Or.inr e2)])⟩⟩⟩⟩
        rw [hy18, nI_1]
        subst e
        have := ih (S.1 14 0 + 1) m (by omega) (by rw [lp_p]; exact R) fr fl
        rw [smd, if_pos rfl] at this
        exact this
    exact main 4 0 m3 (by omega) (by rw [lp_0]; exact R) (fun _ _ => rfl) rfl
theorem q_win (J : Jg) {m : zm} (I : Inv m) {K : Int32 → Int32 → zm → Prop} (hK : ∀ r m', Inv m' → K r r m') : j_Table_win m (fun r1 m1 => j_Model_win m1 (fun r2 m2 => K r1 r2 m2)) := by
  have I' := I
  obtain ⟨S, R, Q, W⟩ := I
  have B := W.1
  have b21 := B.b21 0
  by_cases h11 : S.1 11 0 = 1
  · by_cases h21 : 0 < S.1 21 0
    · by_cases hy : (jd S (S.1 14 0) true).2.2.2 = 0
      · refine c_win J R W h11 h21 (fun _ m1 R => ?_) (fun z => absurd hy z)
        exact r_win J (Q.re R.fr) W h11 h21 (fun _ m2 Q => hK _ _ (Inv.mk R Q W)) (fun z => absurd hy z)
      · obtain ⟨G, s⟩ := tz_Wg J W h11 h21 hy
        refine c_win J R W h11 h21 (fun z => absurd z hy) (fun _ m1 R => ?_)
        exact r_win J (Q.re R.fr) W h11 h21 (fun z => absurd z hy) (fun _ m2 Q => hK _ _ (Inv.mk R Q (Wf_eh G s)))
    · have h26 := (W.2.2.2.2.2.2.2.1 h11).2.2.2.1
      unfold j_Table_win
      rw [show (m.1 0 3 = 1) = (S.1 11 0 = 1) from ph_eq B R.g11 1 (by omega), R.g21, propext (m1_v _ (by omega)).1]
      refine ⟨fun z => absurd h11 z, fun _ => ⟨fun z => by omega, fun _ => ?_⟩⟩
      show j_Model_win m (fun r2 m2 => K (-1) r2 m2)
      unfold j_Model_win
      refine w_isTurn Q B (fun _ => ⟨fun z => absurd z (by decide), fun _ => ?_⟩) (fun z => absurd h11 z)
      rw [Q.g26, h26, propext (m1_v _ (by omega)).2]
      exact ⟨fun _ => hK _ _ I', fun z => by omega⟩
  · unfold j_Table_win
    rw [show (m.1 0 3 = 1) = (S.1 11 0 = 1) from ph_eq B R.g11 1 (by omega)]
    refine ⟨fun _ => ?_, fun z => absurd z h11⟩
    show j_Model_win m (fun r2 m2 => K (-1) r2 m2)
    unfold j_Model_win
    exact w_isTurn Q B (fun z => absurd z h11) (fun _ => ⟨fun _ => hK _ _ I', fun z => absurd rfl z⟩)
