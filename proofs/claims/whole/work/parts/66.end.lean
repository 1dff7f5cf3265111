/-! A HAND ENDS -/
def psS (S : zS) : zS := if S.1 19 0 = 1 then us (ui (ui S 30 (S.1 14 0) (S.2.1 30 (S.1 14 0) - 1000)) 35 0 (S.2.1 35 0 + 1)) 28 0 0 else S
theorem w_payStick {m m0 : zm} {S : zS} {K : zm → Prop} (R : Rc m S m0) (B : Bd S) (k : ∀ m', Rc m' (psS S) m0 → K m') : j_Table_payStick m K := by
  have b19 := B.b19 0
  have b14 := B.b14 0
  unfold j_Table_payStick
  rw [R.g19, pz_0 (by omega), R.g14, nI_clamp (by omega), R.g30 (by omega)]
  refine ⟨fun h => k m ?_, fun h => ⟨pz_in (by omega) (by omega), R.t30 (by omega) (fun m1 R => ?_)⟩⟩
  · unfold psS
    rw [if_neg (by omega)]
    exact R
  · rw [show m1.1 0 7 = S.2.1 35 0 from R.g35]
    refine R.t35 (fun m2 R => k m2 ?_)
    unfold psS
    rw [if_pos (by omega)]
    exact R.x 28 0 0 (fun _ h => h)
theorem w_payStickR {m m0 : zm} {S : zS} {K : zm → Prop} (R : Rr m S m0) (B : Bd S) (h28 : S.1 28 0 = if S.1 19 0 = 1 then S.1 14 0 + 1 else 0) (k : ∀ m', Rr m' (psS S) m0 → K m') : j_Model_payStick m K := by
  have b14 := B.b14 0
  unfold j_Model_payStick
  rw [R.g28]
  by_cases h : S.1 19 0 = 1
  · rw [if_pos h] at h28
    rw [h28, nI_pred, nI_clamp (by omega), R.g30 (by omega)]
    refine ⟨fun z => absurd z (nI_n0 (by omega)), fun _ => ⟨pz_in (by omega) (by omega), pz_in (by omega) (by omega), R.t30 (by omega) (fun m1 R => ?_)⟩⟩
    rw [show m1.1 33 8 = S.2.1 35 0 from R.g35]
    refine R.t35 (fun m2 R => R.t28n (fun m3 R => k m3 ?_))
    unfold psS
    rw [if_pos h]
    exact R
  · rw [if_neg h] at h28
    rw [h28]
    refine ⟨fun _ => k m ?_, fun z => absurd (by decide) z⟩
    unfold psS
    rw [if_neg h]
    exact R
def bI (b : Bool) : Int32 := if b = true then 1 else 0
theorem bI_0 (b : Bool) : (bI b = 0) = (b = false) := by cases b <;> simp [bI]
/-- who has the most points, the first of them -/
def mxi (f : Nat → Int32) : Nat → Nat
  | 0 => 0
  | n + 1 => if f (n + 1) ≤ f (mxi f n) then mxi f n else n + 1
theorem mxi_le (f : Nat → Int32) : ∀ n, mxi f n ≤ n
  | 0 => Nat.le_refl 0
  | n + 1 => by
    have := mxi_le f n
    rw [mxi]
    split <;> omega
def eh1 (S : zS) (mo : Bool) : zS := us (ui S 34 0 (if mo = true then S.2.1 34 0 + 1 else 0)) 11 0 3
def ehS (S : zS) (st mo : Bool) : zS := if st = true then eh1 S (st || mo) else if S.1 12 0 < 3 then us (eh1 S (st || mo)) 12 0 (S.1 12 0 + 1) else if S.1 13 0 < 1 then us (us (eh1 S (st || mo)) 12 0 0) 13 0 (S.1 13 0 + 1) else us (ui (ui (eh1 S (st || mo)) 35 0 0) 30 (mxi (S.2.1 30) 3) (S.2.1 30 (mxi (S.2.1 30) 3) + 1000 * S.2.1 35 0)) 11 0 4
theorem w_finish {m m0 : zm} {T : zS} {K : zm → Prop} (R : Rc m T m0) (k : ∀ m', Rc m' (us (ui (ui T 35 0 0) 30 (mxi (T.2.1 30) 3) (T.2.1 30 (mxi (T.2.1 30) 3) + 1000 * T.2.1 35 0)) 11 0 4) m0 → K m') : j_Table_finish m K := by
  have main : ∀ n i, i + n = 3 → j_Table_finish_L4 K (n + 1) (nI (mxi (T.2.1 30) i)) (nI (i + 1)) m := by
    intro n
    induction n with
    | zero =>
      intro i hi
      have e3 : i = 3 := by omega
      subst e3
      have hl := mxi_le (T.2.1 30) 3
      rw [j_Table_finish_L4, show ((4 : Int32) ≤ nI (3 + 1)) = True from propext ⟨fun _ => trivial, fun _ => by decide⟩, nI_clamp (by omega), R.g30 (by omega)]
      refine ⟨fun _ => ⟨pz_in (by omega) (by omega), fun y hy => ?_⟩, fun z => absurd trivial z⟩
      rw [R.g35] at hy
      subst hy
      exact R.t35 (fun m1 R => R.t30 (by omega) (fun m2 R => R.t11 (v := 4) (fun m3 R => k m3 R)))
    | succ n ih =>
      intro i hi
      have hl := mxi_le (T.2.1 30) i
      rw [j_Table_finish_L4, show ((4 : Int32) ≤ nI (i + 1)) = (4 ≤ i + 1) from pz_le (a := 4) (by omega) (by omega), nI_clamp (by omega), nI_clamp (by omega), R.g30 (by omega), R.g30 (by omega)]
      refine ⟨fun z => by omega, fun _ => ⟨pz_in (by omega) (by omega), pz_in (by omega) (by omega), fun h y hy => ?_, fun h y hy => ?_⟩⟩
      · rw [hy, nI_1]
        have := ih (i + 1) (by omega)
        rw [mxi, if_pos h] at this
        exact this
      · rw [hy, nI_1]
        have := ih (i + 1) (by omega)
        rw [mxi, if_neg h] at this
        exact this
  exact ⟨4, main 3 0 (by omega)⟩
theorem w_endHand {st mo : Bool} {m m0 : zm} {S : zS} {K : zm → Prop} (R : Rc m S m0) (B : Bd S) (k : ∀ m', Rc m' (ehS S st mo) m0 → K m') : j_Table_endHand (bI st) (bI mo) m K := by
  have b12 := B.b12 0
  have b13 := B.b13 0
  have l19 : ∀ x, x = (if (st || mo) = true then S.2.1 34 0 + 1 else 0) → j_Table_endHand_L19 (bI st) (bI mo) K x m := by
    intro x hx
    rw [hx]
    refine R.t34 (fun m1 R => R.t11 (v := 3) (fun m2 R => ?_))
    have R : Rc m2 (eh1 S (st || mo)) m0 := R
    have g4 : m2.1 0 4 = nI (S.1 12 0) := R.g12
    have g5 : m2.1 0 5 = nI (S.1 13 0) := R.g13
    rw [g4, g5, bI_0, show ((3 : Int32) ≤ nI (S.1 12 0)) = (3 ≤ S.1 12 0) from pz_le (a := 3) (by omega) (by omega), show ((1 : Int32) ≤ nI (S.1 13 0)) = (1 ≤ S.1 13 0) from pz_le (a := 1) (by omega) (by omega)]
    refine ⟨fun hs => ⟨fun h1 => ⟨fun h2 => ?_, fun h2 => ?_⟩, fun h1 => ?_⟩, fun hs => ?_⟩
    · refine w_finish R (fun m3 R => k m3 ?_)
      unfold ehS
      rw [if_neg (by rw [hs]; decide), if_neg (by omega), if_neg (by omega)]
      exact R
    · refine R.t12 (v := 0) (fun m3 R => ?_)
      rw [show m3.1 0 5 = nI (S.1 13 0) from R.g13, nI_1]
      refine R.t13 (fun m4 R => k m4 ?_)
      unfold ehS
      rw [if_neg (by rw [hs]; decide), if_neg (by omega), if_pos (by omega)]
      exact R
    · rw [nI_1]
      refine R.t12 (fun m4 R => k m4 ?_)
      unfold ehS
      rw [if_neg (by rw [hs]; decide), if_pos (by omega)]
      exact R
    · refine k m2 ?_
      unfold ehS
      rw [if_pos (by cases st; exact absurd rfl hs; rfl)]
      exact R
  unfold j_Table_endHand j_Table_endHand_L9
  rw [bI_0, bI_0, R.g34]
  refine ⟨fun h => l19 _ ?_, fun h => ⟨fun h2 => l19 _ ?_, fun h2 => l19 _ ?_⟩⟩
  · cases st
    · exact absurd rfl h
    · rfl
  · rw [h, h2]; rfl
  · rw [h]
    cases mo
    · exact absurd rfl h2
    · rfl
theorem w_end {st mo : Bool} {m m0 : zm} {S : zS} {K : zm → Prop} (R : Rr m S m0) (B : Bd S) (k : ∀ m', Rr m' (ehS S st mo) m0 → (∀ j, 46 ≤ j → m'.1 33 j = m.1 33 j) → K m') : j_Model_end (bI st) (bI (st || mo)) m K := by
  have b12 := B.b12 0
  have b13 := B.b13 0
  have l15 : ∀ x, x = (if (st || mo) = true then S.2.1 34 0 + 1 else 0) → j_Model_end_L15 (bI st) (bI (st || mo)) K x m := by
    intro x hx
    rw [hx]
    intro m1 h1
    have f1 : ∀ j, 46 ≤ j → m1.1 33 j = m.1 33 j := fun j hj => by rw [h1, pz_rI, if_neg (by omega)]
    have R := R.wi 34 0 h1 rfl (by omega) rfl rfl
    intro m2 h2
    have f2 : ∀ j, 46 ≤ j → m2.1 33 j = m.1 33 j := fun j hj => by rw [h2, pz_rI, if_neg (by omega)]; exact f1 j hj
    have R := R.w 11 0 3 h2 rfl (by omega) rfl rfl rfl
    have R : Rr m2 (eh1 S (st || mo)) m0 := R
    have g5 : m2.1 33 5 = nI (S.1 12 0) := R.g12
    have g6 : m2.1 33 6 = nI (S.1 13 0) := R.g13
    have l114 : st = false → ¬ (S.1 12 0 = 3 ∧ S.1 13 0 = 1) → j_Model_end_L114 (bI st) (bI (st || mo)) K m2 := by
      intro hs hn
      unfold j_Model_end_L114 j_Model_end_L136
      rw [g5, g6, show (nI (S.1 12 0) = 3) = (S.1 12 0 = 3) from pz_eq (b := 3) (by omega) (by omega), nI_1]
      refine ⟨fun h3 m3 e3 => ?_, fun h3 m3 e3 => ?_⟩
      · have f3 : ∀ j, 46 ≤ j → m3.1 33 j = m.1 33 j := fun j hj => by rw [e3, pz_rI, if_neg (by omega)]; exact f2 j hj
        have R := R.w 13 0 (S.1 13 0) e3 rfl (by omega) rfl rfl rfl
        rw [show us (eh1 S (st || mo)) 13 0 (S.1 13 0) = eh1 S (st || mo) from us_id (eh1 S (st || mo)) 13 0] at R
        rw [show m3.1 33 5 = nI (S.1 12 0) from R.g12, nI_1, pz_rem4 (by omega), show (S.1 12 0 + 1) % 4 = S.1 12 0 + 1 by omega]
        intro m4 e4
        have f4 : ∀ j, 46 ≤ j → m4.1 33 j = m.1 33 j := fun j hj => by rw [e4, pz_rI, if_neg (by omega)]; exact f3 j hj
        have R := R.w 12 0 (S.1 12 0 + 1) e4 rfl (by omega) rfl rfl rfl
        refine k m4 ?_ f4
        unfold ehS
        rw [if_neg (by rw [hs]; decide), if_pos (by omega)]
        exact R
      · have f3 : ∀ j, 46 ≤ j → m3.1 33 j = m.1 33 j := fun j hj => by rw [e3, pz_rI, if_neg (by omega)]; exact f2 j hj
        have R := R.w 13 0 (S.1 13 0 + 1) e3 rfl (by omega) rfl rfl rfl
        rw [show m3.1 33 5 = nI (S.1 12 0) from R.g12, nI_1, pz_rem4 (by omega), show (S.1 12 0 + 1) % 4 = 0 by omega]
        intro m4 e4
        have f4 : ∀ j, 46 ≤ j → m4.1 33 j = m.1 33 j := fun j hj => by rw [e4, pz_rI, if_neg (by omega)]; exact f3 j hj
        have R := R.w 12 0 0 e4 rfl (by omega) rfl rfl rfl
        refine k m4 ?_ f4
        unfold ehS
        rw [if_neg (by rw [hs]; decide), if_neg (by omega), if_pos (by omega), us_cm _ (by omega : ¬ (12 = 13 ∧ 0 = 0))]
        exact R
    rw [g5, g6, bI_0, show (nI (S.1 12 0) = 3) = (S.1 12 0 = 3) from pz_eq (b := 3) (by omega) (by omega), show (nI (S.1 13 0) = 1) = (S.1 13 0 = 1) from pz_eq (b := 1) (by omega) (by omega)]
    refine ⟨fun hs => ⟨fun h3 => l114 hs (fun z => h3 z.1), fun h3 => ⟨fun h4 => l114 hs (fun z => h4 z.2), fun h4 m3 e3 => ?_⟩⟩, fun hs => ?_⟩
    · have f3 : ∀ j, 46 ≤ j → m3.1 33 j = m.1 33 j := fun j hj => by rw [e3, pz_rI, if_neg (by omega)]; exact f2 j hj
      have R := R.w 11 0 4 e3 rfl (by omega) rfl rfl rfl
      have main : ∀ n i, i + n = 3 → j_Model_end_L54 (bI st) (bI (st || mo)) K (n + 1) (nI (mxi (S.2.1 30) i)) (nI (i + 1)) m3 := by
        intro n
        induction n with
        | zero =>
          intro i hi
          have e3' : i = 3 := by omega
          subst e3'
          have hl := mxi_le (S.2.1 30) 3
          rw [j_Model_end_L54, show ((4 : Int32) ≤ nI (3 + 1)) = True from propext ⟨fun _ => trivial, fun _ => by decide⟩, nI_clamp (by omega), R.g30 (by omega), R.g35]
          refine ⟨fun _ => ⟨pz_in (by omega) (by omega), pz_in (by omega) (by omega), fun m4 e4 m5 e5 => ?_⟩, fun z => absurd trivial z⟩
          have f4 : ∀ j, 46 ≤ j → m4.1 33 j = m.1 33 j := fun j hj => by rw [e4, pz_rI, if_neg (by omega)]; exact f3 j hj
          have f5 : ∀ j, 46 ≤ j → m5.1 33 j = m.1 33 j := fun j hj => by rw [e5, pz_rI, if_neg (by omega)]; exact f4 j hj
          have R := R.wi 30 (mxi (S.2.1 30) 3) e4 (show mxi (S.2.1 30) 3 < 4 by omega) (by omega) rfl rfl
          have R := R.wi 35 0 e5 rfl (by omega) rfl rfl
          refine k m5 ?_ f5
          unfold ehS
          rw [if_neg (by rw [hs]; decide), if_neg (by omega), if_neg (by omega)]
          refine Eq.mp (congrArg (fun T => Rr m5 T m0) ?_) R
          refine Prod.ext rfl (Prod.ext ?_ rfl)
          funext a j
          show (if a = 35 ∧ j = 0 then 0 else if a = 30 ∧ j = mxi (S.2.1 30) 3 then _ else if a = 34 ∧ j = 0 then _ else S.2.1 a j) = if a = 30 ∧ j = mxi (S.2.1 30) 3 then _ else if a = 35 ∧ j = 0 then 0 else if a = 34 ∧ j = 0 then _ else S.2.1 a j
          by_cases q : a = 35 ∧ j = 0
          · rw [if_pos q, if_neg (by omega), if_pos q]
          · rw [if_neg q, if_neg (c := a = 35 ∧ j = 0) q]
            rfl
        | succ n ih =>
          intro i hi
          have hl := mxi_le (S.2.1 30) i
          rw [j_Model_end_L54, show ((4 : Int32) ≤ nI (i + 1)) = (4 ≤ i + 1) from pz_le (a := 4) (by omega) (by omega), nI_clamp (by omega), nI_clamp (by omega), R.g30 (by omega), R.g30 (by omega)]
          refine ⟨fun z => by omega, fun _ => ⟨pz_in (by omega) (by omega), pz_in (by omega) (by omega), fun h y hy => ?_, fun h y hy => ?_⟩⟩
          · rw [hy, nI_1]
            have := ih (i + 1) (by omega)
            rw [mxi, if_pos (show S.2.1 30 (i + 1) ≤ S.2.1 30 (mxi (S.2.1 30) i) from h)] at this
            exact this
          · rw [hy, nI_1]
            have := ih (i + 1) (by omega)
            rw [mxi, if_neg (show ¬ S.2.1 30 (i + 1) ≤ S.2.1 30 (mxi (S.2.1 30) i) from h)] at this
            exact this
      exact ⟨4, main 3 0 (by omega)⟩
    · refine k m2 ?_ f2
      unfold ehS
      rw [if_pos (by cases st; exact absurd rfl hs; rfl)]
      exact R
  unfold j_Model_end
  rw [bI_0, R.g34]
  refine ⟨fun h => l15 _ ?_, fun h => l15 _ ?_⟩
  · rw [h]; rfl
  · rw [if_pos (by cases hq : (st || mo); exact absurd hq h; rfl)]
theorem Wf_eh {S : zS} {st mo : Bool} (G : Wg S) (s : ∀ p, p < 4 → ssm S p = 13 ∨ ssm S p = 14) : Wf (ehS S st mo) := by
  obtain ⟨B, M, w, r, wc, p1, p2, p3, o⟩ := G
  have b12 := B.b12 0
  have b13 := B.b13 0
  have gen : ∀ T : zS, Bd T → (∀ a, ¬ (a = 11 ∨ a = 12 ∨ a = 13) → T.1 a = S.1 a) → (∀ a, a = 33 ∨ a = 36 → T.2.1 a = S.2.1 a) → T.2.2 = S.2.2 → (T.1 11 0 = 3 ∨ T.1 11 0 = 4) → Wf T := by
    intro T Bt f fi fy h11
    refine ⟨Bt, M.c (f 3 (by omega)) (f 22 (by omega)) (f 23 (by omega)), w.c (fi 33 (by omega)) (fi 36 (by omega)) (by rw [fy]), r.c (f 2 (by omega)) (f 3 (by omega)) (f 4 (by omega)) (f 5 (by omega)) (f 6 (by omega)) (f 7 (by omega)) (by rw [fy]), ⟨fun k hk => ?_, ?_, ?_, fun _ => ?_, fun z => by omega⟩, fun _ p hp => ?_, fun _ p hp => ?_, fun z => by omega, fun z => by omega⟩
    · unfold wn; rw [f 0 (by omega)]; exact wc k hk
    · rw [f 20 (by omega)]; exact p1
    · rw [f 20 (by omega), f 17 (by omega)]; exact p2
    · rw [f 20 (by omega), f 25 (by omega)]; exact p3
    · rw [ssm_c (f 1 (by omega)) (f 2 (by omega))]; exact s p hp
    · rw [f 9 (by omega)]; exact o p hp
  have B1 : ∀ q, Bd (eh1 S q) := fun q => Bd.u (Bd.ui B) (show 3 ≤ 4 by omega)
  have f1 : ∀ q a, ¬ a = 11 → (eh1 S q).1 a = S.1 a := fun q a h => by
    funext j
    show (if a = 11 ∧ j = 0 then 3 else S.1 a j) = S.1 a j
    rw [if_neg (fun z => h z.1)]
  have i1 : ∀ q a, ¬ a = 34 → (eh1 S q).2.1 a = S.2.1 a := fun q a h => by
    funext j
    show (if a = 34 ∧ j = 0 then _ else S.2.1 a j) = S.2.1 a j
    rw [if_neg (fun z => h z.1)]
  unfold ehS
  split
  · exact gen _ (B1 _) (fun a h => f1 _ a (by omega)) (fun a h => i1 _ a (by omega)) rfl (Or.inl rfl)
  · split
    · refine gen _ ((B1 _).u (show S.1 12 0 + 1 ≤ 3 by omega)) (fun a h => ?_) (fun a h => i1 _ a (by omega)) rfl (Or.inl rfl)
      funext j
      rw [us_1, if_neg (by omega)]
      exact congrFun (f1 _ a (by omega)) j
    · split
      · refine gen _ (((B1 _).u (show 0 ≤ 3 by omega)).u (show S.1 13 0 + 1 ≤ 1 by omega)) (fun a h => ?_) (fun a h => i1 _ a (by omega)) rfl (Or.inl rfl)
        funext j
        rw [us_1, us_1, if_neg (by omega), if_neg (by omega)]
        exact congrFun (f1 _ a (by omega)) j
      · refine gen _ (Bd.u (Bd.ui (Bd.ui (B1 _))) (show 4 ≤ 4 by omega)) (fun a h => ?_) (fun a h => ?_) rfl (Or.inr rfl)
        · funext j
          rw [us_1, if_neg (by omega)]
          exact congrFun (f1 _ a (by omega)) j
        · funext j
          rw [us_2, ui_2, if_neg (by omega), ui_2, if_neg (by omega)]
          exact congrFun (i1 _ a (by omega)) j
/-! nobody took the last tile -/
noncomputable def rdy (S : zS) (p : Nat) : Bool := bb (¬ wm_ (cf S p) (mf S p) (S.1 2 p) = 0)
def nrd (f : Nat → Bool) : Nat → Nat
  | 0 => 0
  | n + 1 => nrd f n + (if f n = true then 1 else 0)
theorem nrd_le (f : Nat → Bool) : ∀ n, nrd f n ≤ n
  | 0 => Nat.le_refl 0
  | n + 1 => by
    have := nrd_le f n
    rw [nrd]
    split <;> omega
theorem or_p : ∀ i, i < 4 → ∀ v, v < 2 ^ i → nI v ||| (1 <<< (nI i &&& 31)) = nI (v + 2 ^ i) := by decide +kernel
theorem bc_v : ∀ v, v < 16 → ∀ m K, K (nI (v % 2 + v / 2 % 2 + v / 4 % 2 + v / 8 % 2)) m → j_JInteger_bitCount (nI v) m K := by
  have h : ∀ v, v < 16 → (fun a0 : Int32 => (fun y1 : Int32 => (fun y2 : Int32 => (fun y3 : Int32 => (fun y4 : Int32 => (fun y5 : Int32 => y5 &&& 63) (y4 + ((Int32.toUInt32 y4 >>> (Int32.toUInt32 16 &&& Int32.toUInt32 31)).toInt32))) (y3 + ((Int32.toUInt32 y3 >>> (Int32.toUInt32 8 &&& Int32.toUInt32 31)).toInt32))) ((y2 + ((Int32.toUInt32 y2 >>> (Int32.toUInt32 4 &&& Int32.toUInt32 31)).toInt32)) &&& 252645135)) ((y1 &&& 858993459) + (((Int32.toUInt32 y1 >>> (Int32.toUInt32 2 &&& Int32.toUInt32 31)).toInt32) &&& 858993459))) (a0 - (((Int32.toUInt32 a0 >>> (Int32.toUInt32 1 &&& Int32.toUInt32 31)).toInt32) &&& 1431655765))) (nI v) = nI (v % 2 + v / 2 % 2 + v / 4 % 2 + v / 8 % 2) := by decide +kernel
  intro v hv m K k
  have e := h v hv
  intro y1 h1 y2 h2 y3 h3 y4 h4 y5 h5
  rw [h5, h4, h3, h2, h1]
  rw [← e] at k
  exact k
theorem bit_z : ∀ v, v < 16 → ∀ p, p < 4 → (((nI v >>> (nI p &&& 31)) &&& 1 = 0) ↔ v / 2 ^ p % 2 = 0) := by decide +kernel
theorem pc_mk (f : Nat → Bool) : mk_ f 4 % 2 + mk_ f 4 / 2 % 2 + mk_ f 4 / 4 % 2 + mk_ f 4 / 8 % 2 = nrd f 4 := by
  have h0 := mk_bit (f := f) (n := 4) (k := 0) (by omega)
  have h1 := mk_bit (f := f) (n := 4) (k := 1) (by omega)
  have h2 := mk_bit (f := f) (n := 4) (k := 2) (by omega)
  have h3 := mk_bit (f := f) (n := 4) (k := 3) (by omega)
  simp only [Nat.pow_zero, Nat.div_one, Nat.pow_one, show (2 : Nat) ^ 2 = 4 from rfl, show (2 : Nat) ^ 3 = 8 from rfl] at h0 h1 h2 h3
  simp only [nrd]
  omega
noncomputable def poS (S : zS) (c n : Nat) : zS := (S.1, fun a j => if a = 30 ∧ j < n then S.2.1 30 j + (if rdy S j = true then 3000 / nI c else (-3000) / (4 - nI c)) else S.2.1 a j, S.2.2)
theorem po_0 (S : zS) (c : Nat) : poS S c 0 = S := by
  refine Prod.ext rfl (Prod.ext ?_ rfl)
  funext a j
  show (if a = 30 ∧ j < 0 then _ else S.2.1 a j) = S.2.1 a j
  rw [if_neg (by omega)]
theorem po_s (S : zS) (c n : Nat) : ui (poS S c n) 30 n (S.2.1 30 n + (if rdy S n = true then 3000 / nI c else (-3000) / (4 - nI c))) = poS S c (n + 1) := by
  refine Prod.ext rfl (Prod.ext ?_ rfl)
  funext a j
  show (if a = 30 ∧ j = n then S.2.1 30 n + (if rdy S n = true then 3000 / nI c else (-3000) / (4 - nI c)) else if a = 30 ∧ j < n then S.2.1 30 j + (if rdy S j = true then 3000 / nI c else (-3000) / (4 - nI c)) else S.2.1 a j) = if a = 30 ∧ j < n + 1 then S.2.1 30 j + (if rdy S j = true then 3000 / nI c else (-3000) / (4 - nI c)) else S.2.1 a j
  by_cases h : a = 30 ∧ j = n
  · rw [if_pos h, if_pos (c := a = 30 ∧ j < n + 1) (by omega), h.2]
  · rw [if_neg h]
    by_cases h2 : a = 30 ∧ j < n
    · rw [if_pos h2, if_pos (c := a = 30 ∧ j < n + 1) (by omega)]
    · rw [if_neg h2, if_neg (c := a = 30 ∧ j < n + 1) (by omega)]
theorem po_30 (S : zS) (c : Nat) {n j : Nat} (h : n ≤ j) : (poS S c n).2.1 30 j = S.2.1 30 j := by
  show (if 30 = 30 ∧ j < n then _ else S.2.1 30 j) = _
  rw [if_neg (by omega)]
noncomputable def drS (S : zS) : zS := if 0 < nrd (rdy S) 4 ∧ nrd (rdy S) 4 < 4 then poS S (nrd (rdy S) 4) 4 else S
theorem dr_1 (S : zS) : (drS S).1 = S.1 := by unfold drS; split <;> rfl
theorem dr_3 (S : zS) : (drS S).2.2 = S.2.2 := by unfold drS; split <;> rfl
theorem dr_2 (S : zS) {a : Nat} (h : ¬ a = 30) : (drS S).2.1 a = S.2.1 a := by
  unfold drS
  split
  · funext j
    show (if a = 30 ∧ j < 4 then _ else S.2.1 a j) = S.2.1 a j
    rw [if_neg (fun z => h z.1)]
  · rfl
theorem c_ne : ∀ c, 0 < c → c < 4 → ¬ (4 - nI c : Int32) = 0 ∧ ¬ nI c = 0 := by
  intro c h1 h2
  rcases (show c = 1 ∨ c = 2 ∨ c = 3 by omega) with e | e | e <;> subst e <;> decide
theorem lN_0 {n : Nat} (h : n < 2 ^ 62) : (lN n = 0) = (n = 0) := by
  refine propext ⟨fun e => ?_, fun e => by rw [e]; rfl⟩
  have := congrArg (fun x : Int64 => x.toBitVec.toNat) e
  simp only [wb_tn (show n < 2 ^ 64 by omega)] at this
  exact this
theorem rdy_c {S T : zS} (h1 : T.1 = S.1) : rdy T = rdy S := by
  funext p
  unfold rdy cf mf
  rw [h1]
theorem w_drawOut {m m0 : zm} {S : zS} {K : zm → Prop} (R : Rc m S m0) (B : Bd S) (k : ∀ m', Rc m' (ehS (drS S) (rdy S (S.1 12 0)) true) m0 → K m') : j_Table_drawOut m K := by
  have b12 := B.b12 0
  have hc := nrd_le (rdy S) 4
  have v16 : mk_ (rdy S) 4 < 16 := mk_lt (rdy S) 4
  have l111 : ∀ m, Rc m (drS S) m0 → j_Table_drawOut_L111 K (nI (mk_ (rdy S) 4)) m := by
    intro m R
    have g4 : m.1 0 4 = nI (S.1 12 0) := by rw [R.g12, dr_1]
    unfold j_Table_drawOut_L111 j_Table_drawOut_L128
    rw [g4, propext (bit_z _ v16 (S.1 12 0) (by omega)), mk_bit (by omega)]
    refine ⟨fun h => ?_, fun h => ?_⟩
    · have e : rdy S (S.1 12 0) = false := by
        cases q : rdy S (S.1 12 0)
        · rfl
        · rw [q] at h; simp at h
      refine w_endHand (st := false) (mo := true) R (by intro a j ha; rw [dr_1]; exact B a j ha) (fun m1 R => k m1 ?_)
      rw [e]; exact R
    · have e : rdy S (S.1 12 0) = true := by
        cases q : rdy S (S.1 12 0)
        · rw [q] at h; simp at h
        · rfl
      refine w_endHand (st := true) (mo := true) R (by intro a j ha; rw [dr_1]; exact B a j ha) (fun m1 R => k m1 ?_)
      rw [e]; exact R
  have l51 : 0 < nrd (rdy S) 4 → nrd (rdy S) 4 < 4 → ∀ n i m, i + n = 4 → Rc m (poS S (nrd (rdy S) 4) i) m0 → j_Table_drawOut_L51 K (n + 1) (nI (mk_ (rdy S) 4)) (nI (nrd (rdy S) 4)) (nI i) m := by
    intro c1 c2 n
    have ne := c_ne _ c1 c2
    induction n with
    | zero =>
      intro i m hi R
      have e4 : i = 4 := by omega
      subst e4
      rw [j_Table_drawOut_L51, show ((4 : Int32) ≤ nI 4) = True from propext ⟨fun _ => trivial, fun _ => by decide⟩]
      refine ⟨fun _ => l111 m ?_, fun z => absurd trivial z⟩
      unfold drS
      rw [if_pos ⟨c1, c2⟩]
      exact R
    | succ n ih =>
      intro i m hi R
      have hi4 : i < 4 := by omega
      have l69 : ∀ x, ((x = 1 ∧ rdy S i = true) ∨ (x = 0 ∧ rdy S i = false)) → j_Table_drawOut_L69 (j_Table_drawOut_L51 K (n + 1)) K (nI (mk_ (rdy S) 4)) (nI (nrd (rdy S) 4)) (nI i) x m := by
        intro x hx
        unfold j_Table_drawOut_L69 j_Table_drawOut_L101
        rw [nI_clamp (by omega), R.g30 hi4, po_30 S _ (Nat.le_refl i)]
        refine ⟨pz_in hi4 (by omega), fun h => ⟨ne.1, ?_⟩, fun h => ⟨ne.2, ?_⟩⟩
        · have e : rdy S i = false := by
            rcases hx with ⟨e, q⟩ | ⟨e, q⟩
            · rw [e] at h; exact absurd h (by decide)
            · exact q
          refine R.t30 hi4 (fun m1 R y hy => ?_)
          rw [hy, nI_1]
          refine ih (i + 1) m1 (by omega) ?_
          rw [← po_s, if_neg (by rw [e]; decide)]
          exact R
        · have e : rdy S i = true := by
            rcases hx with ⟨e, q⟩ | ⟨e, q⟩
            · exact q
            · exact absurd e h
          refine R.t30 hi4 (fun m1 R y hy => ?_)
          rw [hy, nI_1]
          refine ih (i + 1) m1 (by omega) ?_
          rw [← po_s, if_pos e]
          exact R
      rw [j_Table_drawOut_L51, show ((4 : Int32) ≤ nI i) = (4 ≤ i) from pz_le (a := 4) (by omega) (by omega), propext (bit_z _ v16 i hi4), mk_bit hi4]
      refine ⟨fun z => by omega, fun _ => ⟨fun h => l69 0 (Or.inr ⟨rfl, ?_⟩), fun h => l69 1 (Or.inl ⟨rfl, ?_⟩)⟩⟩
      · cases q : rdy S i
        · rfl
        · rw [q] at h; simp at h
      · cases q : rdy S i
        · rw [q] at h; simp at h
        · rfl
  have l4 : ∀ n i, i + n = 4 → j_Table_drawOut_L4 K (n + 1) (nI (mk_ (rdy S) i)) (nI i) m := by
    intro n
    induction n with
    | zero =>
      intro i hi
      have e4 : i = 4 := by omega
      subst e4
      rw [j_Table_drawOut_L4, show ((4 : Int32) ≤ nI 4) = True from propext ⟨fun _ => trivial, fun _ => by decide⟩]
      refine ⟨fun _ => bc_v _ v16 m _ ?_, fun z => absurd trivial z⟩
      rw [pc_mk, show (nI (nrd (rdy S) 4) ≤ (0 : Int32)) = (nrd (rdy S) 4 ≤ 0) from pz_le (b := 0) (by omega) (by omega), show ((4 : Int32) ≤ nI (nrd (rdy S) 4)) = (4 ≤ nrd (rdy S) 4) from pz_le (a := 4) (by omega) (by omega)]
      refine ⟨fun h => l111 m ?_, fun h => ⟨fun h2 => l111 m ?_, fun h2 => ⟨5, l51 (by omega) (by omega) 4 0 m (by omega) (by rw [po_0]; exact R)⟩⟩⟩
      · unfold drS
        rw [if_neg (by omega)]
        exact R
      · unfold drS
        rw [if_neg (by omega)]
        exact R
    | succ n ih =>
      intro i hi
      have hi4 : i < 4 := by omega
      have hm := mk_lt (rdy S) i
      have hlt := wm_lt (cf S i) (mf S i) (S.1 2 i)
      rw [j_Table_drawOut_L4, show ((4 : Int32) ≤ nI i) = (4 ≤ i) from pz_le (a := 4) (by omega) (by omega), nI_clamp (by omega)]
      refine ⟨fun z => by omega, fun _ => ⟨pz_in hi4 (by omega), w_Player_findWaits (R.pP B hi4) ?_⟩⟩
      rw [pz_cmp0, lN_0 (by omega)]
      refine ⟨fun h y hy => ?_, fun h y hy y2 hy2 => ?_⟩
      · rw [hy, nI_1]
        have := ih (i + 1) (by omega)
        rw [mk_, if_neg (by show ¬ rdy S i = true; rw [rdy, bb_f (fun z => z h)]; decide), Nat.add_zero] at this
        exact this
      · rw [hy2, nI_1, hy, or_p i hi4 _ hm]
        have := ih (i + 1) (by omega)
        rw [mk_, if_pos (by show rdy S i = true; exact bb_t h)] at this
        exact this
  exact ⟨5, l4 4 0 (by omega)⟩
theorem w_drawnOut {m m0 : zm} {S : zS} {K : zm → Prop} (R : Rr m S m0) (B : Bd S) (M : Mk S) (s : ∀ p, p < 4 → ssm S p = 13 ∨ ssm S p = 14) (k : ∀ m', Rr m' (ehS (drS S) (rdy S (S.1 12 0)) true) m0 → K m') : j_Model_drawnOut m K := by
  have b12 := B.b12 0
  have hc := nrd_le (rdy S) 4
  have l86 : ∀ m, Rr m (drS S) m0 → j_Model_drawnOut_L86 K m := by
    intro m R
    have Bt : Bd (drS S) := by intro a j ha; rw [dr_1]; exact B a j ha
    have g5 : m.1 33 5 = nI (S.1 12 0) := by rw [R.g12, dr_1]
    have rp : rP m (S.1 12 0) (cf S (S.1 12 0)) (mf S (S.1 12 0)) (S.1 2 (S.1 12 0)) := by
      have h := R.rP Bt (by intro j; rw [dr_1]; exact M j) (p := S.1 12 0) (by omega)
      unfold cf mf at h
      rw [dr_1] at h
      exact h
    unfold j_Model_drawnOut_L86 j_Model_drawnOut_L105
    rw [g5]
    refine w_Model_waitsOf (by omega) rp (cf_5 B) (s _ (by omega)) (fun m1 e1 => ?_)
    have R := R.keep e1
    have hlt := wm_lt (cf S (S.1 12 0)) (mf S (S.1 12 0)) (S.1 2 (S.1 12 0))
    rw [pz_cmp0, lN_0 (show wm_ (cf S (S.1 12 0)) (mf S (S.1 12 0)) (S.1 2 (S.1 12 0)) < 2 ^ 62 by omega)]
    refine ⟨fun h => ?_, fun h => ?_⟩
    · refine w_end (st := false) (mo := true) R Bt (fun m2 R _ => k m2 ?_)
      rw [show rdy S (S.1 12 0) = false from bb_f (fun z => z h)]; exact R
    · refine w_end (st := true) (mo := true) R Bt (fun m2 R _ => k m2 ?_)
      rw [show rdy S (S.1 12 0) = true from bb_t h]; exact R
  have l35 : 0 < nrd (rdy S) 4 → nrd (rdy S) 4 < 4 → ∀ n i m, i + n = 4 → Rr m (poS S (nrd (rdy S) 4) i) m0 → j_Model_drawnOut_L35 K (n + 1) (nI (nrd (rdy S) 4)) (nI i) m := by
    intro c1 c2 n
    have ne := c_ne _ c1 c2
    induction n with
    | zero =>
      intro i m hi R
      have e4 : i = 4 := by omega
      subst e4
      rw [j_Model_drawnOut_L35, show ((4 : Int32) ≤ nI 4) = True from propext ⟨fun _ => trivial, fun _ => by decide⟩]
      refine ⟨fun _ => l86 m ?_, fun z => absurd trivial z⟩
      unfold drS
      rw [if_pos ⟨c1, c2⟩]
      exact R
    | succ n ih =>
      intro i m hi R
      have hi4 : i < 4 := by omega
      have rp : rP m i (cf S i) (mf S i) (S.1 2 i) := R.rP (S := poS S (nrd (rdy S) 4) i) B M hi4
      have hlt := wm_lt (cf S i) (mf S i) (S.1 2 i)
      rw [j_Model_drawnOut_L35, show ((4 : Int32) ≤ nI i) = (4 ≤ i) from pz_le (a := 4) (by omega) (by omega), pz_rem4 (by omega), pz_0 (by omega), nI_clamp (by omega), R.g30 hi4, po_30 S _ (Nat.le_refl i)]
      refine ⟨fun z => by omega, fun _ => ⟨fun z => by omega, fun _ => ⟨pz_in hi4 (by omega), w_Model_waitsOf hi4 rp (cf_5 (S := S) B) (s i hi4) (fun m1 e1 => ?_)⟩⟩⟩
      have R := R.keep e1
      rw [pz_cmp0, lN_0 (show wm_ (cf S i) (mf S i) (S.1 2 i) < 2 ^ 62 by omega)]
      refine ⟨fun h => ⟨ne.1, ?_⟩, fun h => ⟨ne.2, ?_⟩⟩
      · unfold j_Model_drawnOut_L78
        rw [nI_clamp (by omega)]
        refine ⟨pz_in hi4 (by omega), R.t30 hi4 (fun m2 R y hy => ?_)⟩
        rw [hy, nI_1]
        refine ih (i + 1) m2 (by omega) ?_
        rw [← po_s, if_neg (by rw [rdy, bb_f (fun z => z h)]; decide)]
        exact R
      · unfold j_Model_drawnOut_L78
        rw [nI_clamp (by omega)]
        refine ⟨pz_in hi4 (by omega), R.t30 hi4 (fun m2 R y hy => ?_)⟩
        rw [hy, nI_1]
        refine ih (i + 1) m2 (by omega) ?_
        rw [← po_s, if_pos (show rdy S i = true from bb_t h)]
        exact R
  have l4 : ∀ n i m, i + n = 4 → Rr m S m0 → j_Model_drawnOut_L4 K (n + 1) (nI (nrd (rdy S) i)) (nI i) m := by
    intro n
    induction n with
    | zero =>
      intro i m hi R
      have e4 : i = 4 := by omega
      subst e4
      rw [j_Model_drawnOut_L4, show ((4 : Int32) ≤ nI 4) = True from propext ⟨fun _ => trivial, fun _ => by decide⟩]
      refine ⟨fun _ => ?_, fun z => absurd trivial z⟩
      by_cases h : 0 < nrd (rdy S) 4 ∧ nrd (rdy S) 4 < 4
      · exact ⟨5, l35 h.1 h.2 4 0 m (by omega) (by rw [po_0]; exact R)⟩
      · refine ⟨1, ?_⟩
        have R2 : Rr m (drS S) m0 := by
          unfold drS
          rw [if_neg h]
          exact R
        rw [j_Model_drawnOut_L35, pz_rem4 (by omega), pz_0 (by omega)]
        exact ⟨fun _ => l86 m R2, fun _ => ⟨fun _ => l86 m R2, fun z => by omega⟩⟩
    | succ n ih =>
      intro i m hi R
      have hi4 : i < 4 := by omega
      have hlt := wm_lt (cf S i) (mf S i) (S.1 2 i)
      rw [j_Model_drawnOut_L4, show ((4 : Int32) ≤ nI i) = (4 ≤ i) from pz_le (a := 4) (by omega) (by omega)]
      refine ⟨fun z => by omega, fun _ => w_Model_waitsOf hi4 (R.rP B M hi4) (cf_5 B) (s i hi4) (fun m1 e1 => ?_)⟩
      have R := R.keep e1
      rw [pz_cmp0, lN_0 (by omega), nI_1]
      refine ⟨fun h y hy => ?_, fun h y hy => ?_⟩
      · rw [hy, nI_1]
        have := ih (i + 1) m1 (by omega) R
        rw [nrd, if_neg (by rw [rdy, bb_f (fun z => z h)]; decide), Nat.add_zero] at this
        exact this
      · rw [hy, nI_1]
        have := ih (i + 1) m1 (by omega) R
        rw [nrd, if_pos (show rdy S i = true from bb_t h)] at this
        exact this
  exact ⟨5, l4 4 0 m (by omega) R⟩
