/-! A HAND IS WON BY A DRAW -/
noncomputable def dud (S : zS) (p q : Nat) : Int32 := hund ((if p = S.1 12 0 ∨ q = S.1 12 0 then 2 else 1) * nI (jd S p true).1) + 100 * S.2.1 34 0
noncomputable def smd (S : zS) (p : Nat) : Nat → Int32
  | 0 => 1000 * S.2.1 35 0
  | n + 1 => if n = p then smd S p n else smd S p n + dud S p n
noncomputable def lpS (S : zS) (p : Nat) (A : zS) (i : Nat) : zS := (A.1, fun a j => if a = 30 ∧ j < i ∧ ¬ j = p then A.2.1 30 j - dud S p j else A.2.1 a j, A.2.2)
theorem lp_0 (S : zS) (p : Nat) (A : zS) : lpS S p A 0 = A := by
  refine Prod.ext rfl (Prod.ext ?_ rfl)
  funext a j
  exact if_neg (fun z => by omega)
theorem lp_p (S : zS) (p : Nat) (A : zS) : lpS S p A (p + 1) = lpS S p A p := by
  refine Prod.ext rfl (Prod.ext ?_ rfl)
  funext a j
  show (if a = 30 ∧ j < p + 1 ∧ ¬ j = p then A.2.1 30 j - dud S p j else A.2.1 a j) = if a = 30 ∧ j < p ∧ ¬ j = p then A.2.1 30 j - dud S p j else A.2.1 a j
  by_cases q : a = 30 ∧ j < p ∧ ¬ j = p
  · rw [if_pos q, if_pos (by omega)]
  · rw [if_neg q, if_neg (by omega)]
theorem lp_s (S : zS) (p : Nat) (A : zS) {i : Nat} (h : ¬ i = p) : ui (lpS S p A i) 30 i (A.2.1 30 i - dud S p i) = lpS S p A (i + 1) := by
  refine Prod.ext rfl (Prod.ext ?_ rfl)
  funext a j
  show (if a = 30 ∧ j = i then A.2.1 30 i - dud S p i else if a = 30 ∧ j < i ∧ ¬ j = p then A.2.1 30 j - dud S p j else A.2.1 a j) = if a = 30 ∧ j < i + 1 ∧ ¬ j = p then A.2.1 30 j - dud S p j else A.2.1 a j
  by_cases q : a = 30 ∧ j = i
  · rw [if_pos q, if_pos (by omega), q.2]
  · rw [if_neg q]
    by_cases q2 : a = 30 ∧ j < i ∧ ¬ j = p
    · rw [if_pos q2, if_pos (by omega)]
    · rw [if_neg q2, if_neg (by omega)]
theorem lp_30 (S : zS) (p : Nat) (A : zS) {i j : Nat} (h : i ≤ j) : (lpS S p A i).2.1 30 j = A.2.1 30 j := if_neg (fun z => by omega)
theorem lp_30p (S : zS) (p : Nat) (A : zS) {i : Nat} : (lpS S p A i).2.1 30 p = A.2.1 30 p := if_neg (fun z => by omega)
noncomputable def tv_ (S : zS) (p j : Nat) : Int32 := if j % 4 = 0 then nI (jd S p true).2.1 else if j % 4 = 1 then nI (jd S p true).2.2.1 else if j % 4 = 2 then nI (jd S p true).1 else smd S p 4
noncomputable def tzS (S : zS) (p : Nat) : zS := (S.1, fun a j => if a = 30 ∧ j = p then S.2.1 30 p + smd S p 4 else if a = 30 ∧ j < 4 then S.2.1 30 j - dud S p j else if (a = 33 ∨ a = 36) ∧ j / 4 = p then tv_ S p j else if a = 35 ∧ j = 0 then 0 else S.2.1 a j, fun a j => if a = 0 ∧ j = p then lN (jd S p true).2.2.2 else S.2.2 a j)
theorem tz_c {S U : zS} {p : Nat} (h1 : U.1 = S.1) (h3 : ∀ a j, U.2.2 a j = if a = 0 ∧ j = p then lN (jd S p true).2.2.2 else S.2.2 a j) (a0 : ∀ j, U.2.1 30 j = if j = p then S.2.1 30 p + smd S p 4 else if j < 4 then S.2.1 30 j - dud S p j else S.2.1 30 j) (a1 : ∀ a j, (a = 33 ∨ a = 36) → U.2.1 a j = if j / 4 = p then tv_ S p j else S.2.1 a j) (a2 : ∀ j, U.2.1 35 j = if j = 0 then 0 else S.2.1 35 j) (a4 : ∀ a j, ¬ a = 30 → ¬ a = 33 → ¬ a = 36 → ¬ a = 35 → U.2.1 a j = S.2.1 a j) : U = tzS S p := by
  refine Prod.ext h1 (Prod.ext ?_ ?_)
  · funext a j
    show _ = if a = 30 ∧ j = p then S.2.1 30 p + smd S p 4 else if a = 30 ∧ j < 4 then S.2.1 30 j - dud S p j else if (a = 33 ∨ a = 36) ∧ j / 4 = p then tv_ S p j else if a = 35 ∧ j = 0 then 0 else S.2.1 a j
    by_cases q0 : a = 30
    · subst q0; rw [a0]; simp
    · by_cases q1 : a = 33 ∨ a = 36
      · rw [a1 a j q1]
        have : ¬ a = 35 := by omega
        simp [q0, q1, this]
      · by_cases q2 : a = 35
        · subst q2; rw [a2]; simp
        · rw [a4 a j q0 (by omega) (by omega) q2]
          simp [q0, q1, q2]
  · funext a j; exact h3 a j
theorem Wj_win {S : zS} (W : Wf S) (h11 : S.1 11 0 = 1) (h21 : 0 < S.1 21 0) : Wj S (S.1 14 0) true := by
  obtain ⟨B, M, w, r, ⟨wc, p1, p2, p3, _⟩, _, o, w1, _⟩ := W
  obtain ⟨s, tt, rv, h26, h24, h28⟩ := w1 h11
  have b14 := B.b14 0
  refine ⟨B, M, r, by omega, h21, ?_, fun k hk => ?_, p2, p3 (by omega), fun _ => h24 h21⟩
  · rw [s _ (by omega), if_pos rfl, if_pos rfl]
  · have h1 := tt k hk
    have h2 := oS_tot (S := S) (p := S.1 14 0) (k := k) (by omega)
    unfold ac
    unfold oS at h2
    rw [if_neg (fun z => by cases z.1)]
    omega
theorem tz_Wg {S : zS} (J : Jg) (W : Wf S) (h11 : S.1 11 0 = 1) (h21 : 0 < S.1 21 0) (hy : ¬ (jd S (S.1 14 0) true).2.2.2 = 0) : Wg (tzS S (S.1 14 0)) ∧ ∀ p, p < 4 → ssm (tzS S (S.1 14 0)) p = 13 ∨ ssm (tzS S (S.1 14 0)) p = 14 := by
  have wj := Wj_win W h11 h21
  obtain ⟨B, M, w, r, ⟨wc, p1, p2, p3, _⟩, _, o, w1, _⟩ := W
  obtain ⟨s, tt, rv, h26, h24, h28⟩ := w1 h11
  obtain ⟨hb1, hb2⟩ := J.2.2.2 S (S.1 14 0) true wj
  refine ⟨⟨B, M, fun p hp => ?_, r.c rfl rfl rfl rfl rfl rfl (by funext j; rfl), wc, p1, p2, p3 (by omega), o (by omega)⟩, fun p hp => ?_⟩
  · have hs := w p hp
    have e2 : (tzS S (S.1 14 0)).2.2 0 p = if p = S.1 14 0 then lN (jd S (S.1 14 0) true).2.2.2 else S.2.2 0 p := by
      show (if 0 = 0 ∧ p = S.1 14 0 then _ else S.2.2 0 p) = _
      by_cases q : p = S.1 14 0
      · rw [if_pos ⟨rfl, q⟩, if_pos q]
      · rw [if_neg (fun z => q z.2), if_neg q]
    have e3 : ∀ a i, (a = 33 ∨ a = 36) → i < 4 → (tzS S (S.1 14 0)).2.1 a (4 * p + i) = if p = S.1 14 0 then tv_ S (S.1 14 0) (4 * p + i) else S.2.1 a (4 * p + i) := by
      intro a i ha hi
      show (if a = 30 ∧ 4 * p + i = S.1 14 0 then _ else if a = 30 ∧ 4 * p + i < 4 then _ else if (a = 33 ∨ a = 36) ∧ (4 * p + i) / 4 = S.1 14 0 then tv_ S (S.1 14 0) (4 * p + i) else if a = 35 ∧ 4 * p + i = 0 then 0 else S.2.1 a (4 * p + i)) = _
      rw [if_neg (by omega), if_neg (by omega), show (4 * p + i) / 4 = p by omega]
      by_cases q : p = S.1 14 0
      · rw [if_pos ⟨ha, q⟩, if_pos q]
      · rw [if_neg (fun z => q z.2), if_neg (by omega), if_neg q]
    rw [e2]
    have e30 := e3 36 0 (Or.inr rfl) (by omega)
    have e31 := e3 33 0 (Or.inl rfl) (by omega)
    rw [Nat.add_zero] at e30 e31
    by_cases q : p = S.1 14 0
    · rw [if_pos q, e30, e31, if_pos q, if_pos q]
      refine ⟨fun z => ?_, fun _ => ⟨?_, fun i hi => ?_⟩⟩
      · rw [lN_0 (Nat.lt_trans hb2 (by decide))] at z
        exact absurd z hy
      · unfold tv_
        rw [if_pos (by omega)]
        exact nI_n0 (Nat.lt_trans hb1 (by decide))
      · rw [e3 33 i (Or.inl rfl) hi, e3 36 i (Or.inr rfl) hi, if_pos q, if_pos q]
    · rw [if_neg q, e30, e31, if_neg q, if_neg q]
      refine ⟨hs.1, fun z => ⟨(hs.2 z).1, fun i hi => ?_⟩⟩
      rw [e3 33 i (Or.inl rfl) hi, e3 36 i (Or.inr rfl) hi, if_neg q, if_neg q]
      exact (hs.2 z).2 i hi
  · have := s p hp
    rw [show ssm (tzS S (S.1 14 0)) p = ssm S p from rfl]
    split at this <;> omega
theorem eh_33 (S : zS) (st mo : Bool) (j : Nat) : (ehS S st mo).2.1 33 j = S.2.1 33 j := by
  have e1 : ∀ q, (eh1 S q).2.1 33 j = S.2.1 33 j := fun q => rfl
  unfold ehS
  split
  · exact e1 _
  · split
    · exact e1 _
    · split
      · exact e1 _
      · rw [us_2, ui_2, if_neg (by omega), ui_2, if_neg (by omega)]
        exact e1 _
theorem one_m (x : Int32) : 1 * x = x := Int32.one_mul x
theorem c_win {m m0 : zm} {S : zS} {K : Int32 → zm → Prop} (J : Jg) (R : Rc m S m0) (W : Wf S) (h11 : S.1 11 0 = 1) (h21 : 0 < S.1 21 0) (kN : (jd S (S.1 14 0) true).2.2.2 = 0 → ∀ m', Rc m' S m0 → K (-1) m') (kY : ¬ (jd S (S.1 14 0) true).2.2.2 = 0 → ∀ m', Rc m' (ehS (tzS S (S.1 14 0)) (decide (S.1 14 0 = S.1 12 0)) false) m0 → K (nI (jd S (S.1 14 0) true).2.1) m') : j_Table_win m K := by
  have B := W.1
  have b14 := B.b14 0
  have b12 := B.b12 0
  have b21 := B.b21 0
  have hp : S.1 14 0 < 4 := by omega
  unfold j_Table_win
  rw [show (m.1 0 3 = 1) = (S.1 11 0 = 1) from ph_eq B R.g11 1 (by omega), R.g21, propext (m1_v _ (by omega)).1, R.g14]
  refine ⟨fun z => absurd h11 z, fun _ => ⟨fun _ => ?_, fun z => by omega⟩⟩
  refine J.1 S (S.1 14 0) true m m0 _ R (Wj_win W h11 h21) (fun m2 R hc => ?_)
  unfold yb
  by_cases hy : (jd S (S.1 14 0) true).2.2.2 = 0
  · rw [if_pos hy]
    exact ⟨fun z => absurd rfl z, fun _ => kN hy m2 R⟩
  · rw [if_neg hy]
    refine ⟨fun _ => ?_, fun z => absurd z (by decide)⟩
    obtain ⟨c0, c1, c2, c4⟩ := hc hy
    rw [show m2.1 0 8 = nI (S.1 14 0) from R.g14, nI_clamp (by omega)]
    refine ⟨pz_in hp (by omega), fun y5 hy5 => ?_⟩
    subst hy5
    refine w_copy R hp (fun m6 g R => ?_)
    rw [c0, c1, c2, c4] at R
    intro y7 hy7
    have g2 : m6.1 (13 + 5 * S.1 14 0 + 4) 2 = nI (jd S (S.1 14 0) true).1 := by
      rw [R.g33 hp (by omega)]
      show (if 33 = 33 ∧ 4 * S.1 14 0 + 2 = 4 * S.1 14 0 + 3 then _ else if 33 = 33 ∧ 4 * S.1 14 0 + 2 = 4 * S.1 14 0 + 2 then _ else _) = _
      rw [if_neg (by omega), if_pos ⟨rfl, rfl⟩]
    rw [g2] at hy7
    subst hy7
    unfold j_Table_takeSticks
    intro y9 hy9
    rw [show m6.1 0 7 = S.2.1 35 0 from R.g35] at hy9
    subst hy9
    refine R.t35 (fun m8 R => ⟨5, ?_⟩)
    have main : ∀ A : zS, A.1 = S.1 → A.2.1 34 0 = S.2.1 34 0 → (∀ j, A.2.1 30 j = S.2.1 30 j) → (∀ m', Rc m' (ui (ui (lpS S (S.1 14 0) A 4) 30 (S.1 14 0) (S.2.1 30 (S.1 14 0) + smd S (S.1 14 0) 4)) 33 (4 * S.1 14 0 + 3) (smd S (S.1 14 0) 4)) m0 → Rc m' (tzS S (S.1 14 0)) m0) → ∀ n i m, i + n = 4 → Rc m (lpS S (S.1 14 0) A i) m0 → j_Table_win_L79 K (n + 1) (13 + 5 * S.1 14 0) (nI (jd S (S.1 14 0) true).1) (smd S (S.1 14 0) i) (nI i) m := by
      intro A hA1 hA34 hA30 fin n
      induction n with
      | zero =>
        intro i m hi R
        have e4 : i = 4 := by omega
        subst e4
        rw [j_Table_win_L79, show ((4 : Int32) ≤ nI 4) = True from propext ⟨fun _ => trivial, fun _ => by decide⟩, show m.1 (13 + 5 * S.1 14 0) 9 = S.2.1 30 (S.1 14 0) from by rw [R.g30 hp, lp_30p, hA30]]
        refine ⟨fun _ => R.t30 hp (fun m1 R => R.t33 hp (i := 3) (by omega) (fun m2 R => ?_)), fun z => absurd trivial z⟩
        have R := fin m2 R
        have Bt : Bd (tzS S (S.1 14 0)) := B
        rw [show m2.1 0 8 = nI (S.1 14 0) from R.g14, show m2.1 0 4 = nI (S.1 12 0) from R.g12, pz_eq (by omega) (by omega)]
        have l201 : ∀ b, decide (S.1 14 0 = S.1 12 0) = b → j_Table_win_L201 K (13 + 5 * S.1 14 0) (bI b) m2 := by
          intro b hb
          refine w_endHand (st := b) (mo := false) R Bt (fun m3 R => ?_)
          have g0 : m3.1 (13 + 5 * S.1 14 0 + 4) 0 = nI (jd S (S.1 14 0) true).2.1 := by
            rw [R.g33 hp (by omega), eh_33]
            show (if (33 = 33 ∨ 33 = 36) ∧ (4 * S.1 14 0 + 0) / 4 = S.1 14 0 then tv_ S (S.1 14 0) (4 * S.1 14 0 + 0) else if 33 = 35 ∧ 4 * S.1 14 0 + 0 = 0 then 0 else S.2.1 33 (4 * S.1 14 0 + 0)) = _
            rw [if_pos ⟨Or.inl rfl, by omega⟩]
            unfold tv_
            rw [if_pos (by omega)]
          rw [g0]
          rw [← hb] at R
          exact kY hy m3 R
        exact ⟨fun q => l201 false (decide_eq_false q), fun q => l201 true (decide_eq_true q)⟩
      | succ n ih =>
        intro i m hi R
        have hi4 : i < 4 := by omega
        have g8 : m.1 0 8 = nI (S.1 14 0) := by
          rw [R.g14]
          show nI (A.1 14 0) = _
          rw [hA1]
        have g4 : m.1 0 4 = nI (S.1 12 0) := by
          rw [R.g12]
          show nI (A.1 12 0) = _
          rw [hA1]
        rw [j_Table_win_L79, show ((4 : Int32) ≤ nI i) = (4 ≤ i) from pz_le (a := 4) (by omega) (by omega), g8, g4, pz_eq (by omega) (by omega), pz_eq (by omega) (by omega), pz_eq (by omega) (by omega)]
        have l119 : ¬ i = S.1 14 0 → ∀ t0 : Int32, t0 = (if S.1 14 0 = S.1 12 0 ∨ i = S.1 12 0 then 2 else 1) → j_Table_win_L119 (j_Table_win_L79 K (n + 1)) K (13 + 5 * S.1 14 0) (nI (jd S (S.1 14 0) true).1) (smd S (S.1 14 0) i) (nI i) t0 m := by
          intro hne t0 ht0
          unfold j_Table_win_L119 j_Table_toHundreds
          intro y14 hy14
          have g6 : m.1 0 6 = S.2.1 34 0 := by
            rw [R.g34, ← hA34]
            rfl
          have ey : y14 = dud S (S.1 14 0) i := by
            rw [hy14, g6, ht0]
            rfl
          subst ey
          rw [nI_clamp (by omega), R.g30 hi4, lp_30 S _ A (Nat.le_refl i)]
          refine ⟨pz_in hi4 (by omega), R.t30 hi4 (fun m1 R y17 hy17 y18 hy18 => ?_)⟩
          rw [hy17, hy18, nI_1]
          rw [lp_s S _ A hne] at R
          have := ih (i + 1) m1 (by omega) R
          rw [smd, if_neg hne] at this
          exact this
        refine ⟨fun z => by omega, fun _ => ⟨fun e y18 hy18 => ?_, fun hne => ⟨fun e => l119 hne 2 (by rw [if_pos (Or.inl e)]), fun e => ⟨fun e2 => l119 hne 1 (by rw [if_neg (by omega)]), fun e2 => l119 hne 2 (by rw [if_pos (Or.inr e2)])⟩⟩⟩⟩
        rw [hy18, nI_1]
        subst e
        have := ih (S.1 14 0 + 1) m (by omega) (by rw [lp_p]; exact R)
        rw [smd, if_pos rfl] at this
        exact this
    refine main _ ?_ ?_ ?_ (fun m' R => ?_) 4 0 m8 (by omega) (by rw [lp_0]; exact R)
    · rfl
    · rfl
    · intro j; rfl
    · have R := (((R.xi 36 (4 * S.1 14 0 + 0) (nI (jd S (S.1 14 0) true).2.1) (fun _ h => h)).xi 36 (4 * S.1 14 0 + 1) (nI (jd S (S.1 14 0) true).2.2.1) (fun _ h => h)).xi 36 (4 * S.1 14 0 + 2) (nI (jd S (S.1 14 0) true).1) (fun _ h => h)).xi 36 (4 * S.1 14 0 + 3) (smd S (S.1 14 0) 4) (fun _ h => h)
      refine Eq.mp (congrArg (fun T => Rc m' T m0) ?_) R
      have lpi : ∀ (A : zS) a j, ¬ a = 30 → (lpS S (S.1 14 0) A 4).2.1 a j = A.2.1 a j := fun A a j h => if_neg (fun z => h z.1)
      have lpj : ∀ (A : zS) j, ¬ j = S.1 14 0 → j < 4 → (lpS S (S.1 14 0) A 4).2.1 30 j = A.2.1 30 j - dud S (S.1 14 0) j := fun A j h h2 => if_pos ⟨rfl, h2, h⟩
      refine tz_c rfl (fun a j => rfl) (fun j => ?_) (fun a j ha => ?_) (fun j => ?_) (fun a j n0 n1 n2 n3 => ?_)
      · simp only [ui_2, uy_2]
        by_cases j1 : j = S.1 14 0
        · simp [j1]
        · by_cases j2 : j < 4
          · simp [j1, j2, lpj, ui_2, uy_2]
          · simp [j1, j2]
            rw [show (lpS S (S.1 14 0) _ 4).2.1 30 j = _ from lp_30 S _ _ (by omega)]
            simp [ui_2, uy_2]
      · simp only [ui_2, uy_2]
        by_cases jp : j / 4 = S.1 14 0
        · rcases (show j = 4 * S.1 14 0 + 0 ∨ j = 4 * S.1 14 0 + 1 ∨ j = 4 * S.1 14 0 + 2 ∨ j = 4 * S.1 14 0 + 3 by omega) with e | e | e | e <;> subst e <;> rcases ha with ha | ha <;> subst ha
          · simp [tv_, jp, lpi, ui_2, uy_2]
          · simp [tv_, jp, lpi, ui_2, uy_2]
          · simp [tv_, jp, lpi, ui_2, uy_2, show (4 * S.1 14 0 + 1) % 4 = 1 by omega]
          · simp [tv_, jp, lpi, ui_2, uy_2, show (4 * S.1 14 0 + 1) % 4 = 1 by omega]
          · simp [tv_, jp, lpi, ui_2, uy_2, show (4 * S.1 14 0 + 2) % 4 = 2 by omega]
          · simp [tv_, jp, lpi, ui_2, uy_2, show (4 * S.1 14 0 + 2) % 4 = 2 by omega]
          · simp [tv_, jp, lpi, ui_2, uy_2, show (4 * S.1 14 0 + 3) % 4 = 3 by omega]
          · simp [tv_, jp, lpi, ui_2, uy_2, show (4 * S.1 14 0 + 3) % 4 = 3 by omega]
        · have n0 : ¬ j = 4 * S.1 14 0 := by omega
          have n1 : ¬ j = 4 * S.1 14 0 + 1 := by omega
          have n2 : ¬ j = 4 * S.1 14 0 + 2 := by omega
          have n3 : ¬ j = 4 * S.1 14 0 + 3 := by omega
          rcases ha with ha | ha <;> subst ha <;> simp [jp, n0, n1, n2, n3, lpi, ui_2, uy_2]
      · simp [lpi, ui_2, uy_2]
      · simp [n0, n1, n2, n3, lpi, ui_2, uy_2]
