/-! THE REFERENCE: YAKU OF TRIPLETS -/
theorem nI_b (n : Nat) (b : Bool) : nI n + bI b = nI (n + (if b = true then 1 else 0)) := by
  cases b
  · show nI n + nI 0 = _
    rw [nI_add, if_neg (by decide)]
  · show nI n + nI 1 = _
    rw [nI_add, if_pos rfl]
noncomputable def gT (S : zS) (p pr : Nat) (y : Nat → Nat × Nat × Bool) : Nat → Bool := fun j => (((((((((((((one_ (decide (0 < ntri (lst y 4) (27 + (p + 4 - S.1 12 0) % 4))) 10 j || one_ (decide (0 < ntri (lst y 4) (27 + S.1 13 0))) 11 j) || one_ (decide (0 < ntri (lst y 4) 31)) 12 j) || one_ (decide (0 < ntri (lst y 4) 32)) 13 j) || one_ (decide (0 < ntri (lst y 4) 33)) 14 j) || one_ (nR (lst y 4) == 0) 19 j) || one_ (decide (3 ≤ nC (lst y 4))) 20 j) || one_ (decide (3 ≤ nQ (lst y 4))) 21 j) || one_ (bb (∃ r, r < 9 ∧ (0 < ntri (lst y 4) r ∧ 0 < ntri (lst y 4) (9 + r) ∧ 0 < ntri (lst y 4) (18 + r)))) 22 j) || one_ (nD (lst y 4) == 2 && decide (31 ≤ pr)) 23 j) || one_ (nC (lst y 4) == 4) 32 j) || one_ (nQ (lst y 4) == 4) 33 j) || one_ (nD (lst y 4) == 3) 34 j) || one_ (nW (lst y 4) == 3 && decide (27 ≤ pr) && decide (pr ≤ 30)) 35 j) || one_ (nW (lst y 4) == 4) 36 j
theorem w_ofTripletsR {S : zS} {p pr : Nat} {sd : Bool} {y : Nat → Nat × Nat × Bool} {la : Option (Nat × Nat)} {m m0 : zm} {K : Int64 → zm → Prop} (J : Jz m S m0 p sd y pr la) (B : Bd S) (hp : p < 4) (kk : K (lY (gT S p pr y)) m) : j_Model_ofTriplets m K := by
  obtain ⟨jr, R, g32, g33, g34, ⟨g44, hpr⟩, ga, gc⟩ := J
  have b12 := B.b12 0
  have b13 := B.b13 0
  have hC : nC (lst y 4) ≤ 4 := cP_le _ y 4
  have hQ : nQ (lst y 4) ≤ 4 := cP_le _ y 4
  have hD : nD (lst y 4) ≤ 4 := cP_le _ y 4
  have hW : nW (lst y 4) ≤ 4 := cP_le _ y 4
  have hR : nR (lst y 4) ≤ 4 := cP_le _ y 4
  -- the end
  have l357 : ∀ (f : Nat → Bool), K (lY (fun j => (((((f j || one_ (nD (lst y 4) == 2 && decide (31 ≤ pr)) 23 j) || one_ (nC (lst y 4) == 4) 32 j) || one_ (nQ (lst y 4) == 4) 33 j) || one_ (nD (lst y 4) == 3) 34 j) || one_ (nW (lst y 4) == 3 && decide (27 ≤ pr) && decide (pr ≤ 30)) 35 j) || one_ (nW (lst y 4) == 4) 36 j)) m → j_Model_ofTriplets_L357 K (nI (nC (lst y 4))) (nI (nQ (lst y 4))) (nI (nD (lst y 4))) (nI (nW (lst y 4))) (bI (nD (lst y 4) == 2 && decide (31 ≤ pr))) (lY f) m := by
    intro f kk
    refine w_bit (y := 23) (by omega) ?_
    rw [show (nI (nC (lst y 4)) = 4) = (nC (lst y 4) = 4) from pz_eq (b := 4) (by omega) (by omega)]
    refine fl_n (X := fun t => j_Model_ofTriplets_L374 K _ _ _ t _ m) (nC (lst y 4) == 4) beq_p (w_bit (y := 32) (by omega) ?_)
    rw [show (nI (nQ (lst y 4)) = 4) = (nQ (lst y 4) = 4) from pz_eq (b := 4) (by omega) (by omega)]
    refine fl_n (X := fun t => j_Model_ofTriplets_L391 K _ _ t _ m) (nQ (lst y 4) == 4) beq_p (w_bit (y := 33) (by omega) ?_)
    rw [show (nI (nD (lst y 4)) = 3) = (nD (lst y 4) = 3) from pz_eq (b := 3) (by omega) (by omega)]
    refine fl_n (X := fun t => j_Model_ofTriplets_L408 K _ t _ m) (nD (lst y 4) == 3) beq_p (w_bit (y := 34) (by omega) (fun z hz => ?_))
    rw [lY_or, lY_or, lY_or, lY_or] at hz
    subst hz
    have l448 : ∀ b, b = (nW (lst y 4) == 3 && decide (27 ≤ pr) && decide (pr ≤ 30)) → j_Model_ofTriplets_L448 K (nI (nW (lst y 4))) (bI b) (lY (fun j => (((f j || one_ (nD (lst y 4) == 2 && decide (31 ≤ pr)) 23 j) || one_ (nC (lst y 4) == 4) 32 j) || one_ (nQ (lst y 4) == 4) 33 j) || one_ (nD (lst y 4) == 3) 34 j)) m := by
      intro b hb
      refine w_bit (y := 35) (by omega) ?_
      rw [show (nI (nW (lst y 4)) = 4) = (nW (lst y 4) = 4) from pz_eq (b := 4) (by omega) (by omega)]
      refine fl_n (X := fun t => j_Model_ofTriplets_L466 K t _ m) (nW (lst y 4) == 4) beq_p (w_bit (y := 36) (by omega) ?_)
      rw [lY_or, lY_or, hb]
      exact kk
    rw [g44, show (nI (nW (lst y 4)) = 3) = (nW (lst y 4) = 3) from pz_eq (b := 3) (by omega) (by omega), show (nI pr < 27) = (pr < 27) from pz_lt (b := 27) (by omega) (by omega), show ((30 : Int32) < nI pr) = (30 < pr) from pz_lt (a := 30) (by omega) (by omega)]
    refine ⟨fun h => l448 false ?_, fun h => ⟨fun h2 => l448 false ?_, fun h2 => ⟨fun h3 => l448 false ?_, fun h3 => l448 true ?_⟩⟩⟩
    · rw [show (nW (lst y 4) == 3) = false from beq_f.symm ▸ h]; rfl
    · rw [decide_eq_false (show ¬ 27 ≤ pr by omega), Bool.and_false]; rfl
    · rw [decide_eq_false (show ¬ pr ≤ 30 by omega), Bool.and_false]
    · rw [show (nW (lst y 4) == 3) = true from beq_p.symm ▸ h, decide_eq_true (show 27 ≤ pr by omega), decide_eq_true (show pr ≤ 30 by omega)]; rfl
  have l273 : ∀ (f : Nat → Bool), K (lY (fun j => ((((((f j || one_ (bb (∃ r, r < 9 ∧ (0 < ntri (lst y 4) r ∧ 0 < ntri (lst y 4) (9 + r) ∧ 0 < ntri (lst y 4) (18 + r)))) 22 j) || one_ (nD (lst y 4) == 2 && decide (31 ≤ pr)) 23 j) || one_ (nC (lst y 4) == 4) 32 j) || one_ (nQ (lst y 4) == 4) 33 j) || one_ (nD (lst y 4) == 3) 34 j) || one_ (nW (lst y 4) == 3 && decide (27 ≤ pr) && decide (pr ≤ 30)) 35 j) || one_ (nW (lst y 4) == 4) 36 j)) m → ∀ n i, i + n = 9 → j_Model_ofTriplets_L273 K (n + 1) (nI (nC (lst y 4))) (nI (nQ (lst y 4))) (nI (nD (lst y 4))) (nI (nW (lst y 4))) (lY (fun j => f j || one_ (bb (∃ r, r < i ∧ (0 < ntri (lst y 4) r ∧ 0 < ntri (lst y 4) (9 + r) ∧ 0 < ntri (lst y 4) (18 + r)))) 22 j)) (nI i) m := by
    intro f kk n
    induction n with
    | zero =>
      intro i hi
      have e : i = 9 := by omega
      subst e
      rw [j_Model_ofTriplets_L273, show ((9 : Int32) ≤ nI 9) = True from propext ⟨fun _ => trivial, fun _ => by decide⟩, g44, show (nI (nD (lst y 4)) = 2) = (nD (lst y 4) = 2) from pz_eq (b := 2) (by omega) (by omega), show (nI pr < 31) = (pr < 31) from pz_lt (b := 31) (by omega) (by omega)]
      have key := l357 _ kk
      refine ⟨fun _ => ⟨fun h => ?_, fun h => ⟨fun h2 => ?_, fun h2 => ?_⟩⟩, fun z => absurd trivial z⟩
      · rw [show (nD (lst y 4) == 2) = false from beq_f.symm ▸ h] at key; exact key
      · rw [decide_eq_false (show ¬ 31 ≤ pr by omega), Bool.and_false] at key; exact key
      · rw [show (nD (lst y 4) == 2) = true from beq_p.symm ▸ h, decide_eq_true (show 31 ≤ pr by omega)] at key; exact key
    | succ n ih =>
      intro i hi
      rw [j_Model_ofTriplets_L273, show ((9 : Int32) ≤ nI i) = (9 ≤ i) from pz_le (a := 9) (by omega) (by omega)]
      have l321 : j_Model_ofTriplets_L321 (j_Model_ofTriplets_L273 K (n + 1)) K (nI (nC (lst y 4))) (nI (nQ (lst y 4))) (nI (nD (lst y 4))) (nI (nW (lst y 4))) (nI i) (bI (decide (0 < ntri (lst y 4) i) && (decide (0 < ntri (lst y 4) (9 + i)) && decide (0 < ntri (lst y 4) (18 + i))))) (lY (fun j => f j || one_ (bb (∃ r, r < i ∧ (0 < ntri (lst y 4) r ∧ 0 < ntri (lst y 4) (9 + r) ∧ 0 < ntri (lst y 4) (18 + r)))) 22 j)) m := by
        refine w_bit (y := 22) (by omega) (fun z hz w hw => ?_)
        rw [acc_1 (P := fun r => 0 < ntri (lst y 4) r ∧ 0 < ntri (lst y 4) (9 + r) ∧ 0 < ntri (lst y 4) (18 + r)) b3_bb] at hz
        rw [nI_1] at hw
        rw [hz, hw]
        exact ih (i + 1) (by omega)
      refine ⟨fun z => by omega, fun _ => w_hasT jr (by omega) ?_⟩
      rw [bI_0]
      refine ⟨fun h => ?_, fun h => ?_⟩
      · rw [h, Bool.false_and] at l321; exact l321
      rw [show 9 + nI i = nI (9 + i) from nI_add 9 i]
      refine w_hasT jr (by omega) ?_
      rw [bI_0]
      refine ⟨fun h2 => ?_, fun h2 => ?_⟩
      · rw [h2, Bool.false_and, Bool.and_false] at l321; exact l321
      rw [show 18 + nI i = nI (18 + i) from nI_add 18 i]
      refine w_hasT jr (by omega) ?_
      rw [bI_0]
      refine ⟨fun h3 => ?_, fun h3 => ?_⟩
      · rw [h3, Bool.and_false, Bool.and_false] at l321; exact l321
      · rw [ts_nf h, ts_nf h2, ts_nf h3] at l321; exact l321
  have main : ∀ n i, i + n = 4 → j_Model_ofTriplets_L12 K (n + 1) (nI (nC (lst y i))) (nI (nQ (lst y i))) (nI (nD (lst y i))) (nI (nW (lst y i))) (nI i) m := by
    intro n
    induction n with
    | zero =>
      intro i hi
      have e : i = 4 := by omega
      subst e
      rw [j_Model_ofTriplets_L12, le4 (by omega)]
      refine ⟨fun _ => w_seatR R B g32 hp (w_hasT jr (by omega) (w_bit (y := 10) (by omega) ?_)), fun z => absurd (by omega) z⟩
      rw [R.g13, show (27 : Int32) + nI (S.1 13 0) = nI (27 + S.1 13 0) from nI_add 27 _]
      refine w_hasT jr (by omega) (w_bit (y := 11) (by omega) (w_hasT (k := 31) jr (by omega) (w_bit (y := 12) (by omega) (w_hasT (k := 32) jr (by omega) (w_bit (y := 13) (by omega) (w_hasT (k := 33) jr (by omega) (w_bit (y := 14) (by omega) (w_runsR jr ?_))))))))
      rw [show (nI (nR (lst y 4)) = 0) = (nR (lst y 4) = 0) from pz_eq (b := 0) (by omega) (by omega)]
      refine fl_n (X := fun t => j_Model_ofTriplets_L228 K _ _ _ _ t _ m) (nR (lst y 4) == 0) beq_p (w_bit (y := 19) (by omega) ?_)
      rw [show (nI (nC (lst y 4)) < 3) = (nC (lst y 4) < 3) from pz_lt (b := 3) (by omega) (by omega)]
      refine fl_p (X := fun t => j_Model_ofTriplets_L245 K _ _ _ _ t _ m) (decide (3 ≤ nC (lst y 4))) (by rw [decide_eq_false_iff_not]; exact propext ⟨fun h => by omega, fun h => by omega⟩) (w_bit (y := 20) (by omega) ?_)
      rw [show (nI (nQ (lst y 4)) < 3) = (nQ (lst y 4) < 3) from pz_lt (b := 3) (by omega) (by omega)]
      refine fl_p (X := fun t => j_Model_ofTriplets_L262 K _ _ _ _ t _ m) (decide (3 ≤ nQ (lst y 4))) (by rw [decide_eq_false_iff_not]; exact propext ⟨fun h => by omega, fun h => by omega⟩) (w_bit (y := 21) (by omega) (fun z hz => ?_))
      rw [lY_or, lY_or, lY_or, lY_or, lY_or, lY_or, lY_or] at hz
      have key := l273 _ kk 9 0 rfl
      rw [← acc_0] at key
      rw [hz]
      exact ⟨_, key⟩
    | succ n ih =>
      intro i hi
      obtain ⟨a1, a2, a3, a4⟩ := jr i (by omega)
      have nx := ih (i + 1) (by omega)
      have sC : nC (lst y (i + 1)) = nC (lst y i) + (if (!((y i).1 == 0) && (y i).2.2) = true then 1 else 0) := cP_s (fun x => !(x.1 == 0) && x.2.2) y i
      have sQ' : nQ (lst y (i + 1)) = nQ (lst y i) + (if ((y i).1 == 2) = true then 1 else 0) := cP_s (fun x => x.1 == 2) y i
      have sD : nD (lst y (i + 1)) = nD (lst y i) + (if (!((y i).1 == 0) && decide (31 ≤ (y i).2.1)) = true then 1 else 0) := cP_s (fun x => !(x.1 == 0) && decide (31 ≤ x.2.1)) y i
      have sW : nW (lst y (i + 1)) = nW (lst y i) + (if (!((y i).1 == 0) && decide (27 ≤ (y i).2.1) && decide ((y i).2.1 ≤ 30)) = true then 1 else 0) := cP_s (fun x => !(x.1 == 0) && decide (27 ≤ x.2.1) && decide (x.2.1 ≤ 30)) y i
      rw [sC, sQ', sD, sW, ← nI_b, ← nI_b, ← nI_b, ← nI_b] at nx
      have t0 : (nI (y i).1 ≤ 0) = ((y i).1 ≤ 0) := pz_le (b := 0) (by omega) (by omega)
      have e0 : (y i).1 ≤ 0 → ((y i).1 == 0) = true := fun h => beq_p.symm ▸ (by omega)
      have e1 : ¬ (y i).1 ≤ 0 → ((y i).1 == 0) = false := fun h => beq_f.symm ▸ (by omega)
      have l135 : ∀ b, b = (!((y i).1 == 0) && decide (27 ≤ (y i).2.1) && decide ((y i).2.1 ≤ 30)) → j_Model_ofTriplets_L135 (j_Model_ofTriplets_L12 K (n + 1)) K (nI (nC (lst y i)) + bI (!((y i).1 == 0) && (y i).2.2)) (nI (nQ (lst y i)) + bI ((y i).1 == 2)) (nI (nD (lst y i)) + bI (!((y i).1 == 0) && decide (31 ≤ (y i).2.1))) (nI i) (bI b) (nI (nW (lst y i))) m := by
        intro b hb z hz w hw
        rw [hz, hw, nI_1, hb]
        exact nx
      have l92 : ∀ b, b = (!((y i).1 == 0) && decide (31 ≤ (y i).2.1)) → j_Model_ofTriplets_L92 (j_Model_ofTriplets_L12 K (n + 1)) K (nI (nC (lst y i)) + bI (!((y i).1 == 0) && (y i).2.2)) (nI (nQ (lst y i)) + bI ((y i).1 == 2)) (nI (nW (lst y i))) (nI i) (bI b) (nI (nD (lst y i))) m := by
        intro b hb z hz
        rw [hb] at hz
        subst hz
        rw [nI_clamp (by omega), a1, a3, t0, show (nI (y i).2.1 < 27) = ((y i).2.1 < 27) from pz_lt (b := 27) (by omega) (by omega), show ((30 : Int32) < nI (y i).2.1) = (30 < (y i).2.1) from pz_lt (a := 30) (by omega) (by omega)]
        refine ⟨pz_in (by omega) (by omega), fun h => l135 false ?_, fun h => ⟨pz_in (by omega) (by omega), fun h2 => l135 false ?_, fun h2 => ⟨pz_in (by omega) (by omega), fun h3 => l135 false ?_, fun h3 => l135 true ?_⟩⟩⟩
        · rw [e0 h]; rfl
        · rw [decide_eq_false (show ¬ 27 ≤ (y i).2.1 by omega), Bool.and_false]; rfl
        · rw [decide_eq_false (show ¬ (y i).2.1 ≤ 30 by omega), Bool.and_false]
        · rw [e1 h, decide_eq_true (show 27 ≤ (y i).2.1 by omega), decide_eq_true (show (y i).2.1 ≤ 30 by omega)]; rfl
      have l62 : ∀ b, b = ((y i).1 == 2) → j_Model_ofTriplets_L62 (j_Model_ofTriplets_L12 K (n + 1)) K (nI (nC (lst y i)) + bI (!((y i).1 == 0) && (y i).2.2)) (nI (nD (lst y i))) (nI (nW (lst y i))) (nI i) (bI b) (nI (nQ (lst y i))) m := by
        intro b hb z hz
        rw [hb] at hz
        subst hz
        rw [nI_clamp (by omega), a1, a3, t0, show (nI (y i).2.1 < 31) = ((y i).2.1 < 31) from pz_lt (b := 31) (by omega) (by omega)]
        refine ⟨pz_in (by omega) (by omega), fun h => l92 false ?_, fun h => ⟨pz_in (by omega) (by omega), fun h2 => l92 false ?_, fun h2 => l92 true ?_⟩⟩
        · rw [e0 h]; rfl
        · rw [decide_eq_false (show ¬ 31 ≤ (y i).2.1 by omega), Bool.and_false]
        · rw [e1 h, decide_eq_true (show 31 ≤ (y i).2.1 by omega)]; rfl
      have l43 : ∀ b, b = (!((y i).1 == 0) && (y i).2.2) → j_Model_ofTriplets_L43 (j_Model_ofTriplets_L12 K (n + 1)) K (nI (nQ (lst y i))) (nI (nD (lst y i))) (nI (nW (lst y i))) (nI i) (bI b) (nI (nC (lst y i))) m := by
        intro b hb z hz
        rw [hb] at hz
        subst hz
        rw [nI_clamp (by omega), a1, show (nI (y i).1 = 2) = ((y i).1 = 2) from pz_eq (b := 2) (by omega) (by omega)]
        refine ⟨pz_in (by omega) (by omega), fun h => l62 false (show ((y i).1 == 2) = false from beq_f.symm ▸ h).symm, fun h => l62 true (show ((y i).1 == 2) = true from beq_p.symm ▸ h).symm⟩
      rw [j_Model_ofTriplets_L12, le4 (by omega), nI_clamp (by omega), a1, t0]
      refine ⟨fun z => by omega, fun _ => ⟨pz_in (by omega) (by omega), fun h => l43 false ?_, fun h => gc i (by omega) _ ?_⟩⟩
      · rw [e0 h]; rfl
      · rw [e1 h, Bool.not_false, Bool.true_and] at l43
        rw [bI_0]
        exact ⟨fun h2 => l43 false h2.symm, fun h2 => l43 true (ts_nf h2).symm⟩
  exact ⟨_, main 4 0 rfl⟩
