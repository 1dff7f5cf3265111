/-! THE REFERENCE LOOKS AT SETS -/
/-- the sets lie in its arrays -/
def Jr (m : zm) (y : Nat → Nat × Nat × Bool) : Prop := ∀ i, i < 4 → m.1 54 i = nI (y i).1 ∧ (y i).1 < 3 ∧ m.1 53 i = nI (y i).2.1 ∧ (y i).2.1 < 34
/-- all that a reading rests on -/
def Jz (m : zm) (S : zS) (m0 : zm) (p : Nat) (sd : Bool) (y : Nat → Nat × Nat × Bool) (pr : Nat) (la : Option (Nat × Nat)) : Prop := Jr m y ∧ Rr m S m0 ∧ m.1 33 32 = nI p ∧ m.1 33 33 = nI (til S) ∧ m.1 33 34 = bI sd ∧ (m.1 33 44 = nI pr ∧ pr < 34) ∧ ((la = none ∧ m.1 33 45 = -1) ∨ ∃ i, i < 4 ∧ m.1 33 45 = nI i ∧ la = some ((y i).1, (y i).2.1)) ∧ ∀ i, i < 4 → ∀ K : Int32 → zm → Prop, K (bI (y i).2.2) m → j_Model_isClosedSet (nI i) m K
theorem bI_z : (0 : Int32) = bI false := rfl
theorem nI_z : (0 : Int32) = nI 0 := rfl
theorem le4 {i : Nat} (h : i < 1000) : ((4 : Int32) ≤ nI i) = (4 ≤ i) := pz_le (a := 4) (by omega) (by omega)
theorem w_isSet {y : Nat → Nat × Nat × Bool} {i t k : Nat} {m : zm} {K : Int32 → zm → Prop} (J : Jr m y) (hi : i < 4) (ht : t < 3) (hk : k < 1000) (kk : K (bI ((y i).1 == t && (y i).2.1 == k)) m) : j_Model_isSet (nI i) (nI t) (nI k) m K := by
  obtain ⟨a1, a2, a3, a4⟩ := J i hi
  unfold j_Model_isSet
  rw [nI_clamp (by omega), a1, a3, pz_eq (by omega) (by omega), pz_eq (by omega) (by omega)]
  refine ⟨pz_in (by omega) (by omega), fun h => ?_, fun h => ⟨pz_in (by omega) (by omega), fun h2 => ?_, fun h2 => ?_⟩⟩
  · rw [show ((y i).1 == t) = false from beq_f.symm ▸ h, Bool.false_and] at kk
    exact ⟨Or.inl rfl, kk⟩
  · rw [show ((y i).2.1 == k) = false from beq_f.symm ▸ h2, Bool.and_false] at kk
    exact ⟨Or.inl rfl, kk⟩
  · rw [show ((y i).1 == t) = true from beq_p.symm ▸ h, show ((y i).2.1 == k) = true from beq_p.symm ▸ h2] at kk
    exact ⟨Or.inr rfl, kk⟩
theorem dc_s {n d : Nat} {b : Bool} (h : n = d + (if b = true then 1 else 0)) : decide (0 < n) = (decide (0 < d) || b) := by
  subst h
  cases b
  · rw [if_neg (by decide), Bool.or_false, Nat.add_zero]
  · rw [if_pos rfl, Bool.or_true]
    exact decide_eq_true (by omega)
theorem w_hasT {y : Nat → Nat × Nat × Bool} {k : Nat} {m : zm} {K : Int32 → zm → Prop} (J : Jr m y) (hk : k < 1000) (kk : K (bI (decide (0 < ntri (lst y 4) k))) m) : j_Model_has (nI k) m K := by
  have main : ∀ n i, i + n = 4 → j_Model_has_L4 (nI k) K (n + 1) (bI (decide (0 < ntri (lst y i) k))) (nI i) m := by
    intro n
    induction n with
    | zero =>
      intro i hi
      have e : i = 4 := by omega
      subst e
      rw [j_Model_has_L4, le4 (by omega)]
      exact ⟨fun _ => ⟨isB_b _, kk⟩, fun z => absurd (by omega) z⟩
    | succ n ih =>
      intro i hi
      obtain ⟨a1, a2, a3, a4⟩ := J i (by omega)
      have nx := ih (i + 1) (by omega)
      unfold ntri at nx ⊢
      rw [dc_s (cP_s (fun x => !(x.1 == 0) && x.2.1 == k) y i)] at nx
      rw [j_Model_has_L4, le4 (by omega), bI_0, nI_clamp (by omega), a1, a3, show (nI (y i).1 ≤ 0) = ((y i).1 ≤ 0) from pz_le (b := 0) (by omega) (by omega), pz_eq (by omega) (by omega)]
      have nT : (decide (0 < (lst y i).countP (fun x => !(x.1 == 0) && x.2.1 == k)) || (!((y i).1 == 0) && (y i).2.1 == k)) = true → j_Model_has_L32 (nI k) (j_Model_has_L4 (nI k) K (n + 1)) K (nI i) m := fun h z hz => by
        rw [h] at nx
        rw [hz, nI_1]
        exact nx
      have nF : (decide (0 < (lst y i).countP (fun x => !(x.1 == 0) && x.2.1 == k)) || (!((y i).1 == 0) && (y i).2.1 == k)) = false → j_Model_has_L36 (nI k) (j_Model_has_L4 (nI k) K (n + 1)) K (nI i) m := fun h z hz => by
        rw [h] at nx
        rw [hz, nI_1]
        exact nx
      refine ⟨fun z => by omega, fun _ => ⟨fun h => nT ?_, fun h => ⟨pz_in (by omega) (by omega), fun h2 => nF ?_, fun h2 => ⟨pz_in (by omega) (by omega), fun h3 => nF ?_, fun h3 => nT ?_⟩⟩⟩⟩
      · have := ts_nf h
        rw [this, Bool.true_or]
      · rw [h, Bool.false_or, show ((y i).1 == 0) = true from beq_p.symm ▸ (by omega)]; rfl
      · rw [h, Bool.false_or, show ((y i).2.1 == k) = false from beq_f.symm ▸ h3, Bool.and_false]
      · rw [show ((y i).1 == 0) = false from beq_f.symm ▸ (by omega), show ((y i).2.1 == k) = true from beq_p.symm ▸ h3]
        exact Bool.or_true _
  exact ⟨_, main 4 0 rfl⟩
theorem w_hasRunR {y : Nat → Nat × Nat × Bool} {k : Nat} {m : zm} {K : Int32 → zm → Prop} (J : Jr m y) (hk : k < 1000) (kk : K (bI (decide (0 < nrun (lst y 4) k))) m) : j_Model_hasRun (nI k) m K := by
  have main : ∀ n i, i + n = 4 → j_Model_hasRun_L4 (nI k) K (n + 1) (bI (decide (0 < nrun (lst y i) k))) (nI i) m := by
    intro n
    induction n with
    | zero =>
      intro i hi
      have e : i = 4 := by omega
      subst e
      rw [j_Model_hasRun_L4, le4 (by omega)]
      exact ⟨fun _ => ⟨isB_b _, kk⟩, fun z => absurd (by omega) z⟩
    | succ n ih =>
      intro i hi
      have nx := ih (i + 1) (by omega)
      unfold nrun at nx ⊢
      rw [dc_s (cP_s (fun x => x.1 == 0 && x.2.1 == k) y i)] at nx
      rw [j_Model_hasRun_L4, le4 (by omega), bI_0]
      have go : ∀ b, b = (decide (0 < (lst y i).countP (fun x => x.1 == 0 && x.2.1 == k)) || ((y i).1 == 0 && (y i).2.1 == k)) → j_Model_hasRun_L28 (nI k) (j_Model_hasRun_L4 (nI k) K (n + 1)) K (nI i) (bI b) m := fun b h z hz => by
        rw [← h] at nx
        rw [hz, nI_1]
        exact nx
      refine ⟨fun z => by omega, fun _ => ⟨fun h => go true ?_, fun h => w_isSet (t := 0) J (by omega) (by omega) hk ?_⟩⟩
      · have := ts_nf h
        rw [this, Bool.true_or]
      · rw [h, Bool.false_or] at go
        rw [bI_0]
        exact ⟨fun h2 => go false h2.symm, fun h2 => go true (ts_nf h2).symm⟩
  exact ⟨_, main 4 0 rfl⟩
theorem w_runsR {y : Nat → Nat × Nat × Bool} {m : zm} {K : Int32 → zm → Prop} (J : Jr m y) (kk : K (nI (nR (lst y 4))) m) : j_Model_runs m K := by
  have main : ∀ n i, i + n = 4 → j_Model_runs_L4 K (n + 1) (nI (nR (lst y i))) (nI i) m := by
    intro n
    induction n with
    | zero =>
      intro i hi
      have e : i = 4 := by omega
      subst e
      rw [j_Model_runs_L4, le4 (by omega)]
      exact ⟨fun _ => kk, fun z => absurd (by omega) z⟩
    | succ n ih =>
      intro i hi
      obtain ⟨a1, a2, a3, a4⟩ := J i (by omega)
      have nx := ih (i + 1) (by omega)
      unfold nR at nx ⊢
      rw [cP_s (fun x => x.1 == 0) y i] at nx
      rw [j_Model_runs_L4, le4 (by omega), nI_clamp (by omega), a1, show (nI (y i).1 = 0) = ((y i).1 = 0) from pz_eq (b := 0) (by omega) (by omega)]
      refine ⟨fun z => by omega, fun _ => ⟨pz_in (by omega) (by omega), fun h z hz => ?_, fun h z hz => ?_⟩⟩
      · rw [if_neg (show ¬ ((y i).1 == 0) = true from beq_p.symm ▸ h), Nat.add_zero] at nx
        rw [hz, nI_1]
        exact nx
      · rw [if_pos (show ((y i).1 == 0) = true from beq_p.symm ▸ h)] at nx
        rw [hz, nI_1, nI_1]
        exact nx
  exact ⟨_, main 4 0 rfl⟩
theorem w_twinsR {y : Nat → Nat × Nat × Bool} {m : zm} {K : Int32 → zm → Prop} (J : Jr m y) (kk : K (nI (tw_ (lst y 4) 25)) m) : j_Model_twins m K := by
  have hw : ∀ n, tw_ (lst y 4) n ≤ 4 * n := fun n => by
    induction n with
    | zero => exact Nat.le_refl _
    | succ n ih =>
      have : nrun (lst y 4) n ≤ 4 := cP_le _ y 4
      rw [tw_]; omega
  have main : ∀ n k, k + n = 25 → j_Model_twins_L4 K (n + 1) (nI (tw_ (lst y 4) k)) (nI k) m := by
    intro n
    induction n with
    | zero =>
      intro k hk
      have e : k = 25 := by omega
      subst e
      rw [j_Model_twins_L4, show ((25 : Int32) ≤ nI 25) = True from propext ⟨fun _ => trivial, fun _ => by decide⟩]
      exact ⟨fun _ => kk, fun z => absurd trivial z⟩
    | succ n ih =>
      intro k hk
      rw [j_Model_twins_L4, show ((25 : Int32) ≤ nI k) = (25 ≤ k) from pz_le (a := 25) (by omega) (by omega)]
      refine ⟨fun z => by omega, fun _ => ?_⟩
      have inner : ∀ c i, i + c = 4 → j_Model_twins_L15 (j_Model_twins_L4 K (n + 1)) K (c + 1) (nI (tw_ (lst y 4) k)) (nI k) (nI (nrun (lst y i) k)) (nI i) m := by
        intro c
        induction c with
        | zero =>
          intro i hi
          have e : i = 4 := by omega
          subst e
          rw [j_Model_twins_L15, le4 (by omega)]
          refine ⟨fun _ a ha b hb => ?_, fun z => absurd (by omega) z⟩
          have h4 : nrun (lst y 4) k ≤ 4 := cP_le _ y 4
          have hd : ∀ x, x ≤ 4 → nI x / 2 = nI (x / 2) := by decide +kernel
          rw [hd _ h4, nI_add] at ha
          rw [ha, hb, nI_1]
          exact ih (k + 1) (by omega)
        | succ c ihc =>
          intro i hi
          have nx := ihc (i + 1) (by omega)
          unfold nrun at nx ⊢
          rw [cP_s (fun x => x.1 == 0 && x.2.1 == k) y i] at nx
          rw [j_Model_twins_L15, le4 (by omega)]
          refine ⟨fun z => by omega, fun _ => w_isSet (t := 0) J (by omega) (by omega) (by omega) ?_⟩
          rw [bI_0]
          refine ⟨fun h z hz => ?_, fun h z hz => ?_⟩
          · rw [if_neg (show ¬ ((y i).1 == 0 && (y i).2.1 == k) = true from by rw [h]; decide), Nat.add_zero] at nx
            rw [hz, nI_1]
            exact nx
          · rw [if_pos (ts_nf h)] at nx
            rw [hz, nI_1, nI_1]
            exact nx
      exact ⟨_, inner 4 0 rfl⟩
  exact ⟨_, main 25 0 rfl⟩
theorem sw_1 : ∀ p, p < 4 → ∀ d, d < 4 → (27 : Int32) + (((nI p - nI d) + 4) - ((nI p - nI d) + 4) / 4 * 4) = nI (27 + (p + 4 - d) % 4) := by decide +kernel
theorem w_seatR {S : zS} {p : Nat} {m m0 : zm} {K : Int32 → zm → Prop} (R : Rr m S m0) (B : Bd S) (g32 : m.1 33 32 = nI p) (hp : p < 4) (kk : K (nI (27 + (p + 4 - S.1 12 0) % 4)) m) : j_Model_seatWind m K := by
  have := B.b12 0
  unfold j_Model_seatWind
  rw [g32, R.g12, sw_1 p hp _ (by omega)]
  exact kk
theorem rk_1 : ∀ k, k < 34 → (nI k - nI k / 9 * 9) + 1 = nI (k % 9 + 1) := by decide +kernel
theorem w_rankR {k : Nat} {m : zm} {K : Int32 → zm → Prop} (hk : k < 34) (kk : K (nI (k % 9 + 1)) m) : j_Model_rank (nI k) m K := by
  unfold j_Model_rank
  rw [rk_1 k hk]
  exact kk
theorem of_0' : ∀ a, a < 34 → ∀ b, b < 34 → ((nI a - nI b = 0) = (a = b)) := by decide +kernel
theorem of_1' : ∀ a, a < 34 → ∀ b, b < 34 → ((nI a - nI b = 1) = (a = b + 1)) := by decide +kernel
theorem of_2' : ∀ a, a < 34 → ∀ b, b < 34 → ((nI a - nI b = 2) = (a = b + 2)) := by decide +kernel
theorem w_flatR {S : zS} {p pr : Nat} {sd : Bool} {y : Nat → Nat × Nat × Bool} {la : Option (Nat × Nat)} {m m0 : zm} {K : Int32 → zm → Prop} (J : Jz m S m0 p sd y pr la) (B : Bd S) (M : Mk S) (hp : p < 4) (kk : K (bI (bb (cls S p) && nR (lst y 4) == 4 && decide (pr < 31) && !(pr == 27 + (p + 4 - S.1 12 0) % 4) && !(pr == 27 + S.1 13 0) && two_ (til S) la)) m) : j_Model_flat m K := by
  obtain ⟨jr, R, g32, g33, g34, ⟨g44, hpr⟩, ga, gc⟩ := J
  have b12 := B.b12 0
  have b13 := B.b13 0
  have b21 := B.b21 0
  have t34 : til S < 34 := by unfold til; omega
  have l39 : ∀ b, b = (decide (pr < 31) && !(pr == 27 + (p + 4 - S.1 12 0) % 4) && !(pr == 27 + S.1 13 0)) → j_Model_flat_L39 K (bI b) m := by
    intro b hb
    have kk' : K (bI (bb (cls S p) && nR (lst y 4) == 4 && b && two_ (til S) la)) m := by
      rw [hb]
      simpa only [Bool.and_assoc] using kk
    unfold j_Model_flat_L39
    rw [g32]
    refine w_closedR R B M hp (fun hc => ?_) (fun hc => ?_)
    · rw [bb_t hc, Bool.true_and] at kk'
      refine ⟨fun z => absurd z (by decide), fun _ => w_runsR jr ?_⟩
      have h4 : nR (lst y 4) ≤ 4 := cP_le _ y 4
      rw [show (nI (nR (lst y 4)) < 4) = (nR (lst y 4) < 4) from pz_lt (b := 4) (by omega) (by omega), bI_0]
      refine ⟨fun z => ?_, fun z => ⟨fun z2 => ?_, fun z2 => ?_⟩⟩
      · rw [show (nR (lst y 4) == 4) = false from beq_f.symm ▸ (by omega), Bool.false_and, Bool.false_and] at kk'
        exact kk'
      · rw [z2, Bool.and_false, Bool.false_and] at kk'
        exact kk'
      · rw [show (nR (lst y 4) == 4) = true from beq_p.symm ▸ (by omega), ts_nf z2, Bool.true_and, Bool.true_and] at kk'
        rcases ga with ⟨e1, e2⟩ | ⟨i, hi, e1, e2⟩
        · rw [e2, show ((0 : Int32) ≤ -1) = False from propext ⟨fun z => absurd z (by decide), fun z => z.elim⟩]
          refine ⟨fun z => z.elim, fun _ => ?_⟩
          rw [e1] at kk'
          exact kk'
        · obtain ⟨a1, a2, a3, a4⟩ := jr i hi
          rw [e1, nI_clamp (by omega), show ((0 : Int32) ≤ nI i) = True from propext ⟨fun _ => trivial, fun _ => nI_pos' (by omega)⟩]
          refine ⟨fun _ => ⟨pz_in (by omega) (by omega), ?_⟩, fun z => absurd trivial z⟩
          rw [a3]
          refine w_rankR a4 ?_
          rw [e1, nI_clamp (by omega), a3, g33]
          refine ⟨pz_in (by omega) (by omega), fun x hx => ?_⟩
          subst hx
          rw [e2] at kk'
          have two : two_ (til S) (some ((y i).1, (y i).2.1)) = ((til S == (y i).2.1 && decide ((y i).2.1 % 9 < 6)) || (til S == (y i).2.1 + 2 && decide (0 < (y i).2.1 % 9))) := rfl
          rw [two] at kk'
          have l110 : (til S == (y i).2.1 && decide ((y i).2.1 % 9 < 6)) = false → j_Model_flat_L110 K (nI ((y i).2.1 % 9 + 1)) (nI (til S) - nI (y i).2.1) m := by
            intro hf
            rw [hf, Bool.false_or] at kk'
            unfold j_Model_flat_L110
            rw [of_2' _ t34 _ a4, show (nI ((y i).2.1 % 9 + 1) ≤ 1) = ((y i).2.1 % 9 + 1 ≤ 1) from pz_le (b := 1) (by omega) (by omega)]
            refine ⟨fun h => ⟨Or.inl rfl, ?_⟩, fun h => ⟨fun h2 => ⟨Or.inl rfl, ?_⟩, fun h2 => ⟨Or.inr rfl, ?_⟩⟩⟩
            · rw [show (til S == (y i).2.1 + 2) = false from beq_f.symm ▸ h] at kk'
              exact kk'
            · rw [show decide (0 < (y i).2.1 % 9) = false from decide_eq_false (by omega), Bool.and_false] at kk'
              exact kk'
            · rw [show (til S == (y i).2.1 + 2) = true from beq_p.symm ▸ h, show decide (0 < (y i).2.1 % 9) = true from decide_eq_true (by omega)] at kk'
              exact kk'
          rw [of_0' _ t34 _ a4, show (nI ((y i).2.1 % 9 + 1) < 7) = ((y i).2.1 % 9 + 1 < 7) from pz_lt (b := 7) (by omega) (by omega)]
          refine ⟨fun h => l110 ?_, fun h => ⟨fun h2 => ⟨Or.inr rfl, ?_⟩, fun h2 => l110 ?_⟩⟩
          · rw [show (til S == (y i).2.1) = false from beq_f.symm ▸ h]; rfl
          · rw [show (til S == (y i).2.1) = true from beq_p.symm ▸ h, show decide ((y i).2.1 % 9 < 6) = true from decide_eq_true (by omega)] at kk'
            exact kk'
          · rw [show decide ((y i).2.1 % 9 < 6) = false from decide_eq_false (by omega), Bool.and_false]
    · rw [bb_f hc] at kk'
      exact ⟨fun _ => kk', fun z => absurd rfl z⟩
  have l38 : (decide (pr < 31) && !(pr == 27 + (p + 4 - S.1 12 0) % 4) && !(pr == 27 + S.1 13 0)) = false → j_Model_flat_L38 K m := fun h => l39 false h.symm
  unfold j_Model_flat
  rw [g44, show ((31 : Int32) ≤ nI pr) = (31 ≤ pr) from pz_le (a := 31) (by omega) (by omega)]
  refine ⟨fun h => l38 ?_, fun h => w_seatR R B g32 hp ?_⟩
  · rw [show decide (pr < 31) = false from decide_eq_false (by omega)]; rfl
  · rw [g44, R.g13, show (27 : Int32) + nI (S.1 13 0) = nI (27 + S.1 13 0) from nI_add 27 _, pz_eq (by omega) (by omega), pz_eq (by omega) (by omega)]
    refine ⟨fun h2 => l38 ?_, fun h2 => ⟨fun h3 => l38 ?_, fun h3 => l39 true ?_⟩⟩
    · rw [show (pr == 27 + (p + 4 - S.1 12 0) % 4) = true from beq_p.symm ▸ h2, Bool.not_true, Bool.and_false]; rfl
    · rw [show (pr == 27 + S.1 13 0) = true from beq_p.symm ▸ h3, Bool.not_true, Bool.and_false]
    · rw [show (pr == 27 + (p + 4 - S.1 12 0) % 4) = false from beq_f.symm ▸ h2, show (pr == 27 + S.1 13 0) = false from beq_f.symm ▸ h3, show decide (pr < 31) = true from decide_eq_true (by omega)]; rfl
