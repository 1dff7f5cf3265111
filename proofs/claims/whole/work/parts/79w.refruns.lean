/-! THE REFERENCE: YAKU OF RUNS -/
theorem one_o (a b : Bool) (y j : Nat) : (one_ a y j || one_ b y j) = one_ (a || b) y j := by
  unfold one_
  cases a <;> cases b <;> cases (j == y) <;> rfl
theorem acc_1 {f : Nat → Bool} {P : Nat → Prop} {i y : Nat} {b : Bool} (hb : b = bb (P i)) : lY (fun j => f j || one_ (bb (∃ r, r < i ∧ P r)) y j) ||| lY (one_ b y) = lY (fun j => f j || one_ (bb (∃ r, r < i + 1 ∧ P r)) y j) := by
  rw [lY_or]
  refine lY_c (fun j _ => ?_)
  have : bb (∃ r, r < i + 1 ∧ P r) = (bb (∃ r, r < i ∧ P r) || b) := by
    by_cases q : ∃ r, r < i ∧ P r
    · obtain ⟨r, r1, r2⟩ := q
      rw [bb_t ⟨r, by omega, r2⟩, bb_t ⟨r, r1, r2⟩, Bool.true_or]
    · rw [bb_f q, Bool.false_or, hb]
      refine bb_eq ⟨fun ⟨r, r1, r2⟩ => ?_, fun h => ⟨i, by omega, h⟩⟩
      by_cases q2 : r = i
      · rw [q2] at r2; exact r2
      · exact absurd ⟨r, by omega, r2⟩ q
  rw [this, ← one_o, Bool.or_assoc]
theorem acc_0 {f : Nat → Bool} {P : Nat → Prop} {y : Nat} : lY f = lY (fun j => f j || one_ (bb (∃ r, r < 0 ∧ P r)) y j) := by
  refine lY_c (fun j _ => ?_)
  rw [bb_f (fun ⟨r, h, _⟩ => by omega)]
  unfold one_
  rw [Bool.false_and, Bool.or_false]
theorem zc_s {n d : Nat} {b : Bool} (h : n = d + (if b = true then 1 else 0)) : (n == 0) = (d == 0 && !b) := by
  subst h
  cases b
  · rw [if_neg (by decide), Bool.not_false, Bool.and_true, Nat.add_zero]
  · rw [if_pos rfl, Bool.not_true, Bool.and_false]
    exact beq_f.symm ▸ (by omega)
theorem w_outR {k : Nat} {m : zm} {K : Int32 → zm → Prop} (hk : k < 1000) (kk : K (bI (out_ k)) m) : j_Model_outer (nI k) m K := by
  refine w_Model_outer hk (fun h => ?_) (fun h => ?_)
  · rw [h] at kk; exact kk
  · rw [h] at kk; exact kk
/-- a pair of ifs that make a flag -/
theorem fl3 {a b c : Bool} {X : Int32 → Prop} {F : Prop} (hF : X (bI false) → F) (x : X (bI (a && (b && c)))) : ((a = false → F) ∧ (¬ a = false → ((b = false → F) ∧ (¬ b = false → ((c = false → F) ∧ (¬ c = false → X (bI true))))))) := by
  refine ⟨fun h => hF ?_, fun h => ⟨fun h2 => hF ?_, fun h2 => ⟨fun h3 => hF ?_, fun h3 => ?_⟩⟩⟩
  · rw [h] at x; exact x
  · rw [h2, Bool.false_and, Bool.and_false] at x; exact x
  · rw [h3, Bool.and_false, Bool.and_false] at x; exact x
  · rw [ts_nf h, ts_nf h2, ts_nf h3] at x; exact x
noncomputable def gR (S : zS) (p pr : Nat) (y : Nat → Nat × Nat × Bool) (la : Option (Nat × Nat)) : Nat → Bool := fun j => (((((((one_ (bb (cls S p) && nR (lst y 4) == 4 && decide (pr < 31) && !(pr == 27 + (p + 4 - S.1 12 0) % 4) && !(pr == 27 + S.1 13 0) && two_ (til S) la) 8 j || one_ (bb (cls S p) && tw_ (lst y 4) 25 == 1) 9 j) || one_ (bb (cls S p) && tw_ (lst y 4) 25 == 2) 27 j) || one_ (bb (∃ r, r < 7 ∧ (0 < nrun (lst y 4) r ∧ 0 < nrun (lst y 4) (9 + r) ∧ 0 < nrun (lst y 4) (18 + r)))) 15 j) || one_ (bb (∃ s, s < 3 ∧ (0 < nrun (lst y 4) (9 * s) ∧ 0 < nrun (lst y 4) (9 * s + 3) ∧ 0 < nrun (lst y 4) (9 * s + 6)))) 16 j) || one_ ((out_ pr && nE (lst y 4) == 0) && (decide (0 < nR (lst y 4)) && (decide (27 ≤ pr) || decide (0 < nH (lst y 4))))) 17 j) || one_ ((out_ pr && nE (lst y 4) == 0) && (decide (0 < nR (lst y 4)) && !(decide (27 ≤ pr) || decide (0 < nH (lst y 4))))) 18 j))
theorem b3_bb {a b c : Nat} : (decide (0 < a) && (decide (0 < b) && decide (0 < c))) = bb (0 < a ∧ 0 < b ∧ 0 < c) := by
  by_cases h1 : 0 < a
  · by_cases h2 : 0 < b
    · by_cases h3 : 0 < c
      · rw [decide_eq_true h1, decide_eq_true h2, decide_eq_true h3, bb_t ⟨h1, h2, h3⟩]; rfl
      · rw [decide_eq_false h3, Bool.and_false, Bool.and_false, bb_f (fun z => h3 z.2.2)]
    · rw [decide_eq_false h2, Bool.false_and, Bool.and_false, bb_f (fun z => h2 z.2.1)]
  · rw [decide_eq_false h1, Bool.false_and, bb_f (fun z => h1 z.1)]
theorem w_ofRunsR {S : zS} {p pr : Nat} {sd : Bool} {y : Nat → Nat × Nat × Bool} {la : Option (Nat × Nat)} {m m0 : zm} {K : Int64 → zm → Prop} (J : Jz m S m0 p sd y pr la) (B : Bd S) (M : Mk S) (hp : p < 4) (kk : K (lY (gR S p pr y la)) m) : j_Model_ofRuns m K := by
  have J' := J
  obtain ⟨jr, R, g32, g33, g34, ⟨g44, hpr⟩, ga, gc⟩ := J
  have tl : ∀ (f : Nat → Bool), (K (lY (fun j => (f j || one_ ((out_ pr && nE (lst y 4) == 0) && (decide (0 < nR (lst y 4)) && (decide (27 ≤ pr) || decide (0 < nH (lst y 4))))) 17 j) || one_ ((out_ pr && nE (lst y 4) == 0) && (decide (0 < nR (lst y 4)) && !(decide (27 ≤ pr) || decide (0 < nH (lst y 4))))) 18 j)) m) → ∀ n i, i + n = 4 → j_Model_ofRuns_L218 K (n + 1) (lY f) (bI (out_ pr && nE (lst y i) == 0)) (bI (decide (27 ≤ pr) || decide (0 < nH (lst y i)))) (nI i) m := by
    intro f kk n
    induction n with
    | zero =>
      intro i hi
      have e : i = 4 := by omega
      subst e
      rw [j_Model_ofRuns_L218, le4 (by omega)]
      refine ⟨fun _ => w_runsR jr ?_, fun z => absurd (by omega) z⟩
      have h4 : nR (lst y 4) ≤ 4 := cP_le _ y 4
      generalize (out_ pr && nE (lst y 4) == 0) = en at kk
      generalize (decide (27 ≤ pr) || decide (0 < nH (lst y 4))) = ho at kk
      have l310 : ∀ ru, ru = decide (0 < nR (lst y 4)) → j_Model_ofRuns_L310 K (lY f) (bI en) (bI ho) (bI ru) m := by
        intro ru hru
        rw [← hru] at kk
        have l361 : j_Model_ofRuns_L361 K (bI (en && (ru && !ho))) (lY f ||| lY (one_ (en && (ru && ho)) 17)) m := by
          refine w_bit (y := 18) (by omega) ?_
          rw [lY_or, lY_or]
          exact kk
        have l334 : j_Model_ofRuns_L334 K (bI en) (bI ho) (bI ru) (bI (en && (ru && ho))) (lY f) m := by
          refine w_bit (y := 17) (by omega) ?_
          rw [bI_0, bI_0, bI_0]
          refine ⟨fun h => ?_, fun h => ⟨fun h2 => ?_, fun h2 => ⟨fun h3 => ?_, fun h3 => ?_⟩⟩⟩
          · rw [h] at l361 ⊢; exact l361
          · rw [h2] at l361 ⊢
            have e1 : (en && (false && !ho)) = false := by cases en <;> rfl
            rw [e1] at l361
            exact l361
          · rw [ts_nf h3] at l361 ⊢
            have e1 : (en && (ru && !true)) = false := by cases en <;> cases ru <;> rfl
            rw [e1] at l361
            exact l361
          · rw [h3, ts_nf h, ts_nf h2] at l361 ⊢
            exact l361
        unfold j_Model_ofRuns_L310
        rw [bI_0, bI_0, bI_0]
        exact fl3 (X := fun t => j_Model_ofRuns_L334 K (bI en) (bI ho) (bI ru) t (lY f) m) (fun h => h) l334
      rw [show (nI (nR (lst y 4)) ≤ 0) = (nR (lst y 4) ≤ 0) from pz_le (b := 0) (by omega) (by omega)]
      exact ⟨fun h => l310 false (decide_eq_false (by omega)).symm, fun h => l310 true (decide_eq_true (by omega)).symm⟩
    | succ n ih =>
      intro i hi
      obtain ⟨a1, a2, a3, a4⟩ := jr i (by omega)
      have nx := ih (i + 1) (by omega)
      have s1 : (nE (lst y (i + 1)) == 0) = (nE (lst y i) == 0 && !(!(out_ (y i).2.1 || ((y i).1 == 0 && (y i).2.1 % 9 == 6)))) := zc_s (cP_s (fun x => !(out_ x.2.1 || (x.1 == 0 && x.2.1 % 9 == 6))) y i)
      have s2 : decide (0 < nH (lst y (i + 1))) = (decide (0 < nH (lst y i)) || decide (27 ≤ (y i).2.1)) := dc_s (cP_s (fun x => decide (27 ≤ x.2.1)) y i)
      rw [Bool.not_not] at s1
      rw [s1, s2, ← Bool.and_assoc, ← Bool.or_assoc] at nx
      generalize (out_ pr && nE (lst y i) == 0) = en at nx ⊢
      generalize (decide (27 ≤ pr) || decide (0 < nH (lst y i))) = ho at nx ⊢
      have l271 : ∀ e', e' = (en && (out_ (y i).2.1 || ((y i).1 == 0 && (y i).2.1 % 9 == 6))) → j_Model_ofRuns_L271 (j_Model_ofRuns_L218 K (n + 1)) K (lY f) (bI ho) (nI i) (nI (y i).2.1) (bI e') m := by
        intro e' he
        rw [← he] at nx
        have l290 : ∀ h', h' = (ho || decide (27 ≤ (y i).2.1)) → j_Model_ofRuns_L290 (j_Model_ofRuns_L218 K (n + 1)) K (lY f) (bI e') (nI i) (bI h') m := by
          intro h' hh z hz
          rw [← hh] at nx
          rw [hz, nI_1]
          exact nx
        unfold j_Model_ofRuns_L271
        rw [bI_0, show (nI (y i).2.1 < 27) = ((y i).2.1 < 27) from pz_lt (b := 27) (by omega) (by omega)]
        refine ⟨fun h => l290 true (by rw [ts_nf h]; rfl), fun h => ⟨fun h2 => l290 false ?_, fun h2 => l290 true ?_⟩⟩
        · rw [h, decide_eq_false (by omega)]; rfl
        · rw [decide_eq_true (show 27 ≤ (y i).2.1 by omega), Bool.or_true]
      rw [j_Model_ofRuns_L218, le4 (by omega), nI_clamp (by omega), a3]
      refine ⟨fun z => by omega, fun _ => ⟨pz_in (by omega) (by omega), fun z hz => ?_⟩⟩
      subst hz
      rw [bI_0]
      refine ⟨fun h => l271 false (by rw [h]; rfl), fun h => w_outR (by omega) ?_⟩
      rw [ts_nf h, Bool.true_and] at l271
      rw [bI_0]
      refine ⟨fun h2 => l271 true (by rw [ts_nf h2]; rfl), fun h2 => ⟨pz_in (by omega) (by omega), ?_⟩⟩
      rw [h2, Bool.false_or] at l271
      rw [a1, show (nI (y i).1 = 0) = ((y i).1 = 0) from pz_eq (b := 0) (by omega) (by omega)]
      refine ⟨fun h3 => l271 false ?_, fun h3 => w_rankR a4 ?_⟩
      · rw [show ((y i).1 == 0) = false from beq_f.symm ▸ h3]; rfl
      · rw [show ((y i).1 == 0) = true from beq_p.symm ▸ h3, Bool.true_and] at l271
        rw [show (nI ((y i).2.1 % 9 + 1) = 7) = ((y i).2.1 % 9 + 1 = 7) from pz_eq (b := 7) (by omega) (by omega)]
        exact ⟨fun h4 => l271 false (show ((y i).2.1 % 9 == 6) = false from beq_f.symm ▸ (by omega)).symm, fun h4 => l271 true (show ((y i).2.1 % 9 == 6) = true from beq_p.symm ▸ (by omega)).symm⟩
  have l131 : ∀ (f : Nat → Bool), K (lY (fun j => (((f j || one_ (bb (∃ s, s < 3 ∧ (0 < nrun (lst y 4) (9 * s) ∧ 0 < nrun (lst y 4) (9 * s + 3) ∧ 0 < nrun (lst y 4) (9 * s + 6)))) 16 j) || one_ ((out_ pr && nE (lst y 4) == 0) && (decide (0 < nR (lst y 4)) && (decide (27 ≤ pr) || decide (0 < nH (lst y 4))))) 17 j) || one_ ((out_ pr && nE (lst y 4) == 0) && (decide (0 < nR (lst y 4)) && !(decide (27 ≤ pr) || decide (0 < nH (lst y 4))))) 18 j))) m → ∀ n i, i + n = 3 → j_Model_ofRuns_L131 K (n + 1) (lY (fun j => f j || one_ (bb (∃ s, s < i ∧ (0 < nrun (lst y 4) (9 * s) ∧ 0 < nrun (lst y 4) (9 * s + 3) ∧ 0 < nrun (lst y 4) (9 * s + 6)))) 16 j)) (nI (9 * i)) m := by
    intro f kk n
    induction n with
    | zero =>
      intro i hi
      have e : i = 3 := by omega
      subst e
      rw [j_Model_ofRuns_L131, show ((27 : Int32) ≤ nI (9 * 3)) = True from propext ⟨fun _ => trivial, fun _ => by decide⟩, g44]
      refine ⟨fun _ => w_outR (by omega) ?_, fun z => absurd trivial z⟩
      rw [g44, show (nI pr < 27) = (pr < 27) from pz_lt (b := 27) (by omega) (by omega)]
      have key := tl _ kk 4 0 rfl
      have e1 : (out_ pr && nE (lst y 0) == 0) = out_ pr := by
        have : (nE (lst y 0) == 0) = true := rfl
        rw [this, Bool.and_true]
      have e2 : (decide (27 ≤ pr) || decide (0 < nH (lst y 0))) = decide (27 ≤ pr) := by
        have : decide (0 < nH (lst y 0)) = false := rfl
        rw [this, Bool.or_false]
      rw [e1, e2] at key
      refine ⟨fun h => ?_, fun h => ?_⟩
      · rw [decide_eq_false (by omega)] at key
        exact ⟨_, key⟩
      · rw [decide_eq_true (by omega)] at key
        exact ⟨_, key⟩
    | succ n ih =>
      intro i hi
      rw [j_Model_ofRuns_L131, show ((27 : Int32) ≤ nI (9 * i)) = (27 ≤ 9 * i) from pz_le (a := 27) (by omega) (by omega)]
      have l177 : j_Model_ofRuns_L177 (j_Model_ofRuns_L131 K (n + 1)) K (nI (9 * i)) (bI (decide (0 < nrun (lst y 4) (9 * i)) && (decide (0 < nrun (lst y 4) (9 * i + 3)) && decide (0 < nrun (lst y 4) (9 * i + 6))))) (lY (fun j => f j || one_ (bb (∃ s, s < i ∧ (0 < nrun (lst y 4) (9 * s) ∧ 0 < nrun (lst y 4) (9 * s + 3) ∧ 0 < nrun (lst y 4) (9 * s + 6)))) 16 j)) m := by
        refine w_bit (y := 16) (by omega) (fun z hz w hw => ?_)
        rw [acc_1 (P := fun s => 0 < nrun (lst y 4) (9 * s) ∧ 0 < nrun (lst y 4) (9 * s + 3) ∧ 0 < nrun (lst y 4) (9 * s + 6)) b3_bb] at hz
        rw [show nI (9 * i) + 9 = nI (9 * i + 9) from nI_add (9 * i) 9, show 9 * i + 9 = 9 * (i + 1) by omega] at hw
        rw [hz, hw]
        exact ih (i + 1) (by omega)
      refine ⟨fun z => by omega, fun _ => w_hasRunR jr (by omega) ?_⟩
      rw [bI_0]
      refine ⟨fun h => ?_, fun h => ?_⟩
      · rw [h, Bool.false_and] at l177; exact l177
      rw [show nI (9 * i) + 3 = nI (9 * i + 3) from nI_add (9 * i) 3]
      refine w_hasRunR jr (by omega) ?_
      rw [bI_0]
      refine ⟨fun h2 => ?_, fun h2 => ?_⟩
      · rw [h2, Bool.false_and, Bool.and_false] at l177; exact l177
      rw [show nI (9 * i) + 6 = nI (9 * i + 6) from nI_add (9 * i) 6]
      refine w_hasRunR jr (by omega) ?_
      rw [bI_0]
      refine ⟨fun h3 => ?_, fun h3 => ?_⟩
      · rw [h3, Bool.and_false, Bool.and_false] at l177; exact l177
      · rw [ts_nf h, ts_nf h2, ts_nf h3] at l177; exact l177
  have l68 : ∀ (f : Nat → Bool), K (lY (fun j => ((((f j || one_ (bb (∃ r, r < 7 ∧ (0 < nrun (lst y 4) r ∧ 0 < nrun (lst y 4) (9 + r) ∧ 0 < nrun (lst y 4) (18 + r)))) 15 j) || one_ (bb (∃ s, s < 3 ∧ (0 < nrun (lst y 4) (9 * s) ∧ 0 < nrun (lst y 4) (9 * s + 3) ∧ 0 < nrun (lst y 4) (9 * s + 6)))) 16 j) || one_ ((out_ pr && nE (lst y 4) == 0) && (decide (0 < nR (lst y 4)) && (decide (27 ≤ pr) || decide (0 < nH (lst y 4))))) 17 j) || one_ ((out_ pr && nE (lst y 4) == 0) && (decide (0 < nR (lst y 4)) && !(decide (27 ≤ pr) || decide (0 < nH (lst y 4))))) 18 j))) m → ∀ n i, i + n = 7 → j_Model_ofRuns_L68 K (n + 1) (lY (fun j => f j || one_ (bb (∃ r, r < i ∧ (0 < nrun (lst y 4) r ∧ 0 < nrun (lst y 4) (9 + r) ∧ 0 < nrun (lst y 4) (18 + r)))) 15 j)) (nI i) m := by
    intro f kk n
    induction n with
    | zero =>
      intro i hi
      have e : i = 7 := by omega
      subst e
      rw [j_Model_ofRuns_L68, show ((7 : Int32) ≤ nI 7) = True from propext ⟨fun _ => trivial, fun _ => by decide⟩]
      refine ⟨fun _ => ?_, fun z => absurd trivial z⟩
      have key := l131 _ kk 3 0 rfl
      rw [← acc_0] at key
      exact ⟨_, key⟩
    | succ n ih =>
      intro i hi
      rw [j_Model_ofRuns_L68, show ((7 : Int32) ≤ nI i) = (7 ≤ i) from pz_le (a := 7) (by omega) (by omega)]
      have l115 : j_Model_ofRuns_L115 (j_Model_ofRuns_L68 K (n + 1)) K (nI i) (bI (decide (0 < nrun (lst y 4) i) && (decide (0 < nrun (lst y 4) (9 + i)) && decide (0 < nrun (lst y 4) (18 + i))))) (lY (fun j => f j || one_ (bb (∃ r, r < i ∧ (0 < nrun (lst y 4) r ∧ 0 < nrun (lst y 4) (9 + r) ∧ 0 < nrun (lst y 4) (18 + r)))) 15 j)) m := by
        refine w_bit (y := 15) (by omega) (fun z hz w hw => ?_)
        rw [acc_1 (P := fun r => 0 < nrun (lst y 4) r ∧ 0 < nrun (lst y 4) (9 + r) ∧ 0 < nrun (lst y 4) (18 + r)) b3_bb] at hz
        rw [nI_1] at hw
        rw [hz, hw]
        exact ih (i + 1) (by omega)
      refine ⟨fun z => by omega, fun _ => w_hasRunR jr (by omega) ?_⟩
      rw [bI_0]
      refine ⟨fun h => ?_, fun h => ?_⟩
      · rw [h, Bool.false_and] at l115; exact l115
      rw [show 9 + nI i = nI (9 + i) from nI_add 9 i]
      refine w_hasRunR jr (by omega) ?_
      rw [bI_0]
      refine ⟨fun h2 => ?_, fun h2 => ?_⟩
      · rw [h2, Bool.false_and, Bool.and_false] at l115; exact l115
      rw [show 18 + nI i = nI (18 + i) from nI_add 18 i]
      refine w_hasRunR jr (by omega) ?_
      rw [bI_0]
      refine ⟨fun h3 => ?_, fun h3 => ?_⟩
      · rw [h3, Bool.and_false, Bool.and_false] at l115; exact l115
      · rw [ts_nf h, ts_nf h2, ts_nf h3] at l115; exact l115
  have l19 : ∀ t, t < 1000 → (bb (cls S p) && tw_ (lst y 4) 25 == 1) = (t == 1) → (bb (cls S p) && tw_ (lst y 4) 25 == 2) = (t == 2) → j_Model_ofRuns_L19 K (nI t) m := by
    intro t ht e1 e2
    unfold j_Model_ofRuns_L19
    refine w_flatR J' B M hp (w_bit (y := 8) (by omega) ?_)
    rw [show (nI t = 1) = (t = 1) from pz_eq (b := 1) (by omega) (by omega)]
    refine fl_n (X := fun x => j_Model_ofRuns_L41 K (nI t) x _ m) (t == 1) beq_p (w_bit (y := 9) (by omega) ?_)
    rw [show (nI t = 2) = (t = 2) from pz_eq (b := 2) (by omega) (by omega)]
    refine fl_n (X := fun x => j_Model_ofRuns_L58 K x _ m) (t == 2) beq_p (w_bit (y := 27) (by omega) (fun z hz => ?_))
    rw [← e1, ← e2, lY_or, lY_or] at hz
    have key := l68 _ kk 7 0 rfl
    rw [← acc_0] at key
    rw [hz]
    exact ⟨_, key⟩
  unfold j_Model_ofRuns
  rw [g32]
  refine w_closedR R B M hp (fun hc => ⟨fun z => absurd z (by decide), fun _ => w_twinsR jr ?_⟩) (fun hc => ⟨fun _ => l19 0 (by omega) ?_ ?_, fun z => absurd rfl z⟩)
  · have ht : ∀ n, tw_ (lst y 4) n ≤ 2 * n := fun n => by
      induction n with
      | zero => exact Nat.le_refl _
      | succ n ih =>
        have : nrun (lst y 4) n ≤ 4 := cP_le _ y 4
        rw [tw_]; omega
    have := ht 25
    exact l19 _ (by omega) (by rw [bb_t hc, Bool.true_and]) (by rw [bb_t hc, Bool.true_and])
  · rw [bb_f hc]; rfl
  · rw [bb_f hc]; rfl
