/-! THE REFERENCE: FU -/
theorem m2_1 : ∀ a, a < 9 → (2 : Int32) * nI a = nI (2 * a) := by decide +kernel
theorem m4_1 : ∀ a, a < 9 → (4 : Int32) * nI a = nI (4 * a) := by decide +kernel
theorem w_fuOfSetsR {S : zS} {p pr : Nat} {sd : Bool} {y : Nat → Nat × Nat × Bool} {la : Option (Nat × Nat)} {g : Nat → Bool} {m m0 : zm} {K : Int32 → zm → Prop} (J : Jz m S m0 p sd y pr la) (B : Bd S) (M : Mk S) (hp : p < 4) (kk : K (nI (if sd = true ∧ g 8 = true then 20 else fu_ (en_ S p sd) pr (lst y 4) la)) m) : j_Model_fuOfSets (lY g) m K := by
  obtain ⟨jr, R, g32, g33, g34, ⟨g44, hpr⟩, ga, gc⟩ := J
  have b12 := B.b12 0
  have b13 := B.b13 0
  have b21 := B.b21 0
  have t34 : til S < 34 := by unfold til; omega
  have hfus := fus_le y
  have l30 : ¬ (sd = true ∧ g 8 = true) → ∀ c, c = bb (cls S p) → j_Model_fuOfSets_L30 (lY g) K (bI c) m := by
    intro hn c hc
    rw [if_neg hn] at kk
    have efu : ∀ A, A = 20 + (if c && !sd then 10 else 0) + (if sd then 2 else 0) + ((if 31 ≤ pr then 2 else 0) + (if pr = 27 + (p + 4 - S.1 12 0) % 4 then 2 else 0) + (if pr = 27 + S.1 13 0 then 2 else 0)) + nar_ (til S) la → fu_ (en_ S p sd) pr (lst y 4) la = if (A + fus (lst y 4) + 9) / 10 * 10 = 20 ∧ c = false then 30 else (A + fus (lst y 4) + 9) / 10 * 10 := by
      intro A hA
      rw [hA, hc]
      rfl
    have l216 : ∀ A, A < 100 → A = 20 + (if c && !sd then 10 else 0) + (if sd then 2 else 0) + ((if 31 ≤ pr then 2 else 0) + (if pr = 27 + (p + 4 - S.1 12 0) % 4 then 2 else 0) + (if pr = 27 + S.1 13 0 then 2 else 0)) + nar_ (til S) la → j_Model_fuOfSets_L216 (lY g) K (bI c) (nI A) m := by
      intro A hA hA2
      rw [efu A hA2] at kk
      have main : ∀ n i, i + n = 4 → j_Model_fuOfSets_L219 (lY g) K (n + 1) (bI c) (nI (A + fus (lst y i))) (nI i) m := by
        intro n
        induction n with
        | zero =>
          intro i hi
          have e : i = 4 := by omega
          subst e
          have f4 := hfus 4
          rw [j_Model_fuOfSets_L219, le4 (by omega)]
          refine ⟨fun _ z hz => ?_, fun z => absurd (by omega) z⟩
          rw [ten_9 (by omega)] at hz
          rw [hz, show (nI ((A + fus (lst y 4) + 9) / 10 * 10) = 20) = ((A + fus (lst y 4) + 9) / 10 * 10 = 20) from pz_eq (b := 20) (by omega) (by omega), bI_0]
          refine ⟨fun h => ?_, fun h => ⟨fun h2 => ?_, fun h2 => ?_⟩⟩
          · rw [if_neg (fun z => h z.1)] at kk; exact kk
          · rw [if_neg (fun z => h2 z.2)] at kk; exact kk
          · rw [if_pos ⟨h, h2⟩] at kk; exact kk
        | succ n ih =>
          intro i hi
          obtain ⟨a1, a2, a3, a4⟩ := jr i (by omega)
          have nx := ih (i + 1) (by omega)
          rw [fus_s, ← Nat.add_assoc] at nx
          have l301 : ∀ t, t = fuv (y i) → j_Model_fuOfSets_L301 (lY g) (j_Model_fuOfSets_L219 (lY g) K (n + 1)) K (bI c) (nI i) (nI t) (nI (A + fus (lst y i))) m := by
            intro t ht z hz w hw
            rw [nI_add] at hz
            rw [hz, hw, nI_1, ht]
            exact nx
          have l263 : ∀ t, t = (if (y i).2.2 then 4 else 2) * (if out_ (y i).2.1 then 2 else 1) → j_Model_fuOfSets_L263 (lY g) (j_Model_fuOfSets_L219 (lY g) K (n + 1)) K (bI c) (nI (A + fus (lst y i))) (nI i) (nI t) m := by
            intro t ht
            have t9 : t < 9 := by rw [ht]; cases (y i).2.2 <;> cases out_ (y i).2.1 <;> decide
            have ev : fuv (y i) = if (y i).1 = 0 then 0 else t * (if (y i).1 = 2 then 4 else 1) := by rw [ht]; rfl
            rw [ev] at l301
            unfold j_Model_fuOfSets_L263
            rw [nI_clamp (by omega), a1, show (nI (y i).1 = 0) = ((y i).1 = 0) from pz_eq (b := 0) (by omega) (by omega), show (nI (y i).1 = 2) = ((y i).1 = 2) from pz_eq (b := 2) (by omega) (by omega), m4_1 t t9]
            refine ⟨pz_in (by omega) (by omega), fun h => ⟨pz_in (by omega) (by omega), fun h2 => l301 t ?_, fun h2 => l301 (4 * t) ?_⟩, fun h => l301 0 ?_⟩
            · rw [if_neg h, if_neg h2, Nat.mul_one]
            · rw [if_neg h, if_pos h2]; omega
            · rw [if_pos h]
          have l239 : ∀ t, t = (if (y i).2.2 then 4 else 2) → j_Model_fuOfSets_L239 (lY g) (j_Model_fuOfSets_L219 (lY g) K (n + 1)) K (bI c) (nI (A + fus (lst y i))) (nI i) (nI t) m := by
            intro t ht
            have t9 : t < 9 := by rw [ht]; cases (y i).2.2 <;> decide
            rw [← ht] at l263
            unfold j_Model_fuOfSets_L239
            rw [nI_clamp (by omega), a3, m2_1 t t9]
            refine ⟨pz_in (by omega) (by omega), w_outR (by omega) ?_⟩
            rw [bI_0]
            refine ⟨fun h => l263 t ?_, fun h => l263 (2 * t) ?_⟩
            · rw [h]; exact (Nat.mul_one t).symm
            · rw [ts_nf h]; exact Nat.mul_comm 2 t
          rw [j_Model_fuOfSets_L219, le4 (by omega)]
          refine ⟨fun z => by omega, fun _ => gc i (by omega) _ ?_⟩
          rw [bI_0]
          exact ⟨fun h => l239 2 (by rw [h]; rfl), fun h => l239 4 (by rw [ts_nf h]; rfl)⟩
      exact ⟨_, main 4 0 rfl⟩
    have l117 : ∀ A0 P t, A0 = 20 + (if c && !sd then 10 else 0) + (if sd then 2 else 0) → P = (if 31 ≤ pr then 2 else 0) + (if pr = 27 + (p + 4 - S.1 12 0) % 4 then 2 else 0) → t = (if pr = 27 + S.1 13 0 then 2 else 0) → j_Model_fuOfSets_L117 (lY g) K (bI c) (nI t) (nI P) (nI A0) m := by
      intro A0 P t hA hP ht z hz
      rw [nI_add, nI_add] at hz
      subst hz
      rw [← hA, ← hP, ← ht] at l216
      have hA0 : A0 ≤ 32 := by rw [hA]; cases c <;> cases sd <;> decide
      have hPt : P ≤ 4 ∧ t ≤ 2 := by
        rw [hP, ht]
        constructor
        · split <;> split <;> omega
        · split <;> omega
      rcases ga with ⟨e1, e2⟩ | ⟨i, hi, e1, e2⟩
      · rw [e2, show ((0 : Int32) ≤ -1) = False from propext ⟨fun z => absurd z (by decide), fun z => z.elim⟩]
        refine ⟨fun z => z.elim, fun _ z hz => ?_⟩
        rw [show nI (A0 + (P + t)) + 2 = nI (A0 + (P + t) + 2) from nI_add _ 2] at hz
        rw [hz]
        refine l216 _ (by omega) ?_
        rw [e1]
        rfl
      · obtain ⟨a1, a2, a3, a4⟩ := jr i hi
        rw [e1, nI_clamp (by omega), a1, a3, g33, show ((0 : Int32) ≤ nI i) = True from propext ⟨fun _ => trivial, fun _ => nI_pos' (by omega)⟩, show (nI (y i).1 = 0) = ((y i).1 = 0) from pz_eq (b := 0) (by omega) (by omega)]
        rw [e2] at l216
        have hnar : nar_ (til S) (some ((y i).1, (y i).2.1)) = if (y i).1 = 0 ∧ (til S = (y i).2.1 + 1 ∨ (til S = (y i).2.1 + 2 ∧ (y i).2.1 % 9 = 0) ∨ (til S = (y i).2.1 ∧ (y i).2.1 % 9 = 6)) then 2 else 0 := rfl
        rw [hnar] at l216
        have l208 : ((y i).1 = 0 ∧ (til S = (y i).2.1 + 1 ∨ (til S = (y i).2.1 + 2 ∧ (y i).2.1 % 9 = 0) ∨ (til S = (y i).2.1 ∧ (y i).2.1 % 9 = 6))) → j_Model_fuOfSets_L208 (lY g) K (bI c) (nI (A0 + (P + t))) m := by
          intro h z hz
          rw [show nI (A0 + (P + t)) + 2 = nI (A0 + (P + t) + 2) from nI_add _ 2] at hz
          rw [hz]
          exact l216 _ (by omega) (by rw [if_pos h])
        have l212 : ¬ ((y i).1 = 0 ∧ (til S = (y i).2.1 + 1 ∨ (til S = (y i).2.1 + 2 ∧ (y i).2.1 % 9 = 0) ∨ (til S = (y i).2.1 ∧ (y i).2.1 % 9 = 6))) → j_Model_fuOfSets_L216 (lY g) K (bI c) (nI (A0 + (P + t))) m := fun h => l216 _ (by omega) (by rw [if_neg h, Nat.add_zero])
        refine ⟨fun _ => ⟨pz_in (by omega) (by omega), fun h => l212 (fun z => h z.1), fun h => ⟨pz_in (by omega) (by omega), fun z hz => ⟨pz_in (by omega) (by omega), w_rankR a4 ?_⟩⟩⟩, fun z => absurd trivial z⟩
        subst hz
        have l212' : ¬ ((y i).1 = 0 ∧ (til S = (y i).2.1 + 1 ∨ (til S = (y i).2.1 + 2 ∧ (y i).2.1 % 9 = 0) ∨ (til S = (y i).2.1 ∧ (y i).2.1 % 9 = 6))) → j_Model_fuOfSets_L212 (lY g) K (bI c) (nI (A0 + (P + t))) m := fun h z hz => by
          rw [show nI (A0 + (P + t)) + 0 = nI (A0 + (P + t) + 0) from nI_add _ 0, Nat.add_zero] at hz
          rw [hz]
          exact l212 h
        have l196 : ¬ til S = (y i).2.1 + 1 → ¬ (til S = (y i).2.1 + 2 ∧ (y i).2.1 % 9 = 0) → j_Model_fuOfSets_L196 (lY g) K (bI c) (nI (til S) - nI (y i).2.1) (nI ((y i).2.1 % 9 + 1)) (nI (A0 + (P + t))) m := by
          intro h1 h2
          unfold j_Model_fuOfSets_L196
          rw [of_0' _ t34 _ a4, show (nI ((y i).2.1 % 9 + 1) = 7) = ((y i).2.1 % 9 + 1 = 7) from pz_eq (b := 7) (by omega) (by omega)]
          exact ⟨fun h3 => l212' (by omega), fun h3 => ⟨fun h4 => l212' (by omega), fun h4 => l208 ⟨h, by omega⟩⟩⟩
        rw [of_1' _ t34 _ a4, of_2' _ t34 _ a4, show (nI ((y i).2.1 % 9 + 1) = 1) = ((y i).2.1 % 9 + 1 = 1) from pz_eq (b := 1) (by omega) (by omega)]
        exact ⟨fun h1 => l208 ⟨h, Or.inl h1⟩, fun h1 => ⟨fun h2 => l196 h1 (fun z => h2 z.1), fun h2 => ⟨fun h3 => l208 ⟨h, by omega⟩, fun h3 => l196 h1 (fun z => by omega)⟩⟩⟩
    have l62 : ∀ A0, A0 = 20 + (if c && !sd then 10 else 0) → ∀ t, t = (if sd then 2 else 0) → j_Model_fuOfSets_L62 (lY g) K (bI c) (nI t) (nI A0) m := by
      intro A0 hA t ht z hz
      rw [nI_add] at hz
      subst hz
      have l97 : ∀ P t2, P = (if 31 ≤ pr then 2 else 0) → t2 = (if pr = 27 + (p + 4 - S.1 12 0) % 4 then 2 else 0) → j_Model_fuOfSets_L97 (lY g) K (bI c) (nI t2) (nI P) (nI (A0 + t)) m := by
        intro P t2 hP ht2
        unfold j_Model_fuOfSets_L97
        rw [g44, R.g13, show (27 : Int32) + nI (S.1 13 0) = nI (27 + S.1 13 0) from nI_add 27 _, pz_eq (by omega) (by omega), nI_add]
        exact ⟨fun h => l117 _ _ 0 (by rw [hA, ht]) (by rw [hP, ht2]) (if_neg h).symm, fun h => l117 _ _ 2 (by rw [hA, ht]) (by rw [hP, ht2]) (if_pos h).symm⟩
      have l81 : ∀ P, P = (if 31 ≤ pr then 2 else 0) → j_Model_fuOfSets_L81 (lY g) K (bI c) (nI P) (nI (A0 + t)) m := by
        intro P hP
        refine w_seatR R B g32 hp ?_
        rw [g44, pz_eq (by omega) (by omega)]
        exact ⟨fun h => l97 P 0 hP (if_neg h).symm, fun h => l97 P 2 hP (if_pos h).symm⟩
      rw [g44, show (nI pr < 31) = (pr < 31) from pz_lt (b := 31) (by omega) (by omega)]
      exact ⟨fun h => l81 0 (if_neg (by omega)).symm, fun h => l81 2 (if_pos (by omega)).symm⟩
    have l49 : ∀ t, t = (if c && !sd then 10 else 0) → j_Model_fuOfSets_L49 (lY g) K (bI c) (nI t) (nI 20) m := by
      intro t ht
      unfold j_Model_fuOfSets_L49
      rw [g34, bI_0, nI_add]
      exact ⟨fun h => l62 _ (by rw [ht]) 0 (by rw [h]; rfl), fun h => l62 _ (by rw [ht]) 2 (by rw [ts_nf h]; rfl)⟩
    unfold j_Model_fuOfSets_L30
    rw [g34, bI_0, bI_0]
    exact ⟨fun h => l49 0 (by rw [h]; rfl), fun h => ⟨fun h2 => l49 0 (by rw [ts_nf h2]; cases c <;> rfl), fun h2 => l49 10 (by rw [ts_nf h, h2]; rfl)⟩⟩
  unfold j_Model_fuOfSets
  rw [g32, show ((Int32.toInt64 8 &&& 63) : Int64) = ((nI 8).toInt64 &&& 63) from rfl, lY_bit1 (by omega)]
  have fin : ∀ c, c = bb (cls S p) → ((m.1 33 34 = 0 → j_Model_fuOfSets_L30 (lY g) K (bI c) m) ∧ (¬ m.1 33 34 = 0 → ((¬ g 8 = true → j_Model_fuOfSets_L30 (lY g) K (bI c) m) ∧ (g 8 = true → K 20 m)))) := by
    intro c hc
    rw [g34, bI_0]
    refine ⟨fun h => l30 (fun z => by rw [h] at z; cases z.1) c hc, fun h => ⟨fun h2 => l30 (fun z => h2 z.2) c hc, fun h2 => ?_⟩⟩
    rw [if_pos ⟨ts_nf h, h2⟩] at kk
    exact kk
  exact w_closedR R B M hp (fun hc => fin true (bb_t hc).symm) (fun hc => fin false (bb_f hc).symm)
theorem w_countedR {f : Nat → Bool} {m : zm} {K : Int64 → zm → Prop} (kk : ∀ g, (∀ y, g y = (f y && (!bb (lim_ f) || decide (30 ≤ y)))) → K (lY g) m) : j_Model_counted (lY f) m K := by
  unfold j_Model_counted
  rw [lY_3030, lY_30, pz_cmp0, lim_30]
  refine ⟨fun h => kk f (fun y => ?_), fun h => kk (lmt f) (fun y => ?_)⟩
  · rw [bb_f h, Bool.not_false, Bool.true_or, Bool.and_true]
  · rw [bb_t (Classical.byContradiction h), Bool.not_true, Bool.false_or]
    rfl
/-- two findings that differ only below a limit -/
theorem vy_lim {f g : Nat → Bool} {c : Bool} {dr fu : Nat} (h1 : ∀ y, 30 ≤ y → y < 42 → f y = g y) (h2 : ¬ lim_ f → ∀ y, y < 42 → f y = g y) : vy f c dr fu = vy g c dr fu := by
  have hl : lim_ f ↔ lim_ g := ⟨fun ⟨y, a, b, e⟩ => ⟨y, a, b, by rw [← h1 y a b]; exact e⟩, fun ⟨y, a, b, e⟩ => ⟨y, a, b, by rw [h1 y a b]; exact e⟩⟩
  by_cases q : lim_ f
  · rw [lg_l q, lg_l (hl.mp q)]
    have : mk_ (lmt f) 42 = mk_ (lmt g) 42 := mk_c (fun k hk => by
      unfold lmt
      by_cases z : 30 ≤ k
      · rw [h1 k z hk]
      · rw [decide_eq_false z, Bool.and_false, Bool.and_false])
    rw [this]
  · rw [lg_d q, lg_d (fun z => q (hl.mpr z)), mk_c (h2 q)]
    have : ∀ n, n ≤ 30 → hs_ f c n = hs_ g c n := fun n => by
      induction n with
      | zero => intro _; rfl
      | succ n ih => intro hn; rw [hs_, hs_, ih (by omega), h2 q n (by omega)]
    rw [this 30 (Nat.le_refl _)]
