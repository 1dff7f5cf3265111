theorem w_draw {n : Nat} {m m0 : zm} {S : zS} {K : Int32 → zm → Prop} (R : Rr m S m0) (h0 : 0 < n) (hn : n < 1000) (k : ∀ m', Rr m' (ui S 31 0 (xo (S.2.1 31 0))) m0 → K (nI (pkn (xo (S.2.1 31 0)) n)) m') : j_Model_draw (nI n) m K := by
  unfold j_Model_draw
  rw [R.g31]
  refine R.t31 (fun m1 R => ?_)
  rw [R.g31]
  refine R.t31 (fun m2 R => ?_)
  rw [R.g31]
  refine R.t31 (fun m3 R => ⟨fun z => ?_, ?_⟩)
  · rw [pz_0 (by omega)] at z; omega
  · rw [R.g31]
    rw [ui_ui, ui_ui] at R
    show K ((xo (S.2.1 31 0) &&& 2147483647) - (xo (S.2.1 31 0) &&& 2147483647) / nI n * nI n) m3
    rw [(pkn_eq _ h0 hn).1]
    exact k m3 R
theorem w_Model_shuffle {m m0 : zm} {S : zS} {K : zm → Prop} (R : Rr m S m0) (k : ∀ m', Rr m' (us (us (shs 135 (w0 S 136)) 11 0 0) 17 0 0) m0 → K m') : j_Model_shuffle m K := by
  have two : ∀ (n : Nat) (m : zm) (T : zS), n < 136 → Rr m T m0 → (∀ m', Rr m' (us (us (shs n T) 11 0 0) 17 0 0) m0 → K m') → j_Model_shuffle_L28 K (n + 1) (nI n) m := by
    intro n
    induction n with
    | zero =>
      intro m T _ R k
      rw [j_Model_shuffle_L28]
      refine ⟨fun _ => R.t11 (v := 0) (fun m R => R.t17 (v := 0) (fun m R => k m R)), fun z => absurd (by decide) z⟩
    | succ n ih =>
      intro m T hn R k
      rw [j_Model_shuffle_L28]
      refine ⟨fun z => ?_, fun _ => ?_⟩
      · rw [show (0 : Int32) = nI 0 from rfl, pz_le (by omega) (by omega)] at z; omega
      · rw [nI_1]
        refine w_draw R (by omega) (by omega) (fun m' R => ?_)
        have hlt := (pkn_eq (xo (T.2.1 31 0)) (n := n + 1 + 1) (by omega) (by omega)).2
        refine ⟨pz_in hn (by omega), fun y7 h7 => ⟨pz_in (by omega) (by omega), pz_in (by omega) (by omega), ?_⟩⟩
        rw [nI_clamp (by omega), R.g0 hn] at h7
        rw [nI_clamp (by omega), nI_clamp (by omega), R.g0 (by omega), h7]
        refine R.t0 hn (fun m R => ⟨pz_in (by omega) (by omega), R.t0 (by omega) (fun m R y8 h8 => ?_)⟩)
        have e : y8 = nI n := by rw [h8, ← Int32.sub_eq_add_neg]; exact nI_pred n
        rw [e]
        exact ih m _ (by omega) R k
  have one : ∀ (n i : Nat) (m : zm), i + n = 136 → Rr m (w0 S i) m0 → j_Model_shuffle_L2 K (n + 1) (nI i) m := by
    intro n
    induction n with
    | zero =>
      intro i m hi R
      have hi : i = 136 := by omega
      subst hi
      rw [j_Model_shuffle_L2]
      exact ⟨fun _ => ⟨136, two 135 m _ (by omega) R k⟩, fun z => absurd (by decide) z⟩
    | succ n ih =>
      intro i m hi R
      rw [j_Model_shuffle_L2]
      refine ⟨fun z => ?_, fun _ => ⟨pz_in (by omega) (by omega), ?_⟩⟩
      · rw [show (136 : Int32) = nI 136 from rfl, pz_le (by omega) (by omega)] at z; omega
      · rw [nI_clamp (by omega), pz_div4 (by omega)]
        refine R.t0 (by omega) (fun m R y2 h2 => ?_)
        rw [h2, nI_1]
        rw [w0_s] at R
        exact ih (i + 1) m (by omega) R
  exact ⟨137, one 136 0 m rfl (by rw [w0_0]; exact R)⟩
/-- the state behind a shuffle -/
def shS (S : zS) : zS := us (us (us (shs 135 (w0 S 136)) 20 0 52) 17 0 0) 11 0 0
theorem Rr.toSh {m m0 : zm} {S : zS} (R : Rr m (us (us (shs 135 (w0 S 136)) 11 0 0) 17 0 0) m0) : Rr m (shS S) m0 := by
  have R := R.x 20 0 52 (fun _ h => h)
  unfold shS
  rw [us_cm _ (a := 17) (b := 11) (by omega), us_cm _ (a := 20) (b := 11) (by omega), us_cm _ (a := 20) (b := 17) (by omega)]
  exact R
theorem stp_a (S : zS) (i a : Nat) (h : ¬ a = 0) : (stp S i).1 a = S.1 a := by
  funext b
  unfold stp
  rw [sw_n _ _ _ _ _ h]
  rfl
theorem shs_a (a : Nat) (h : ¬ a = 0) : ∀ (n : Nat) (S : zS), (shs n S).1 a = S.1 a
  | 0, S => rfl
  | n + 1, S => by rw [shs, shs_a a h n, stp_a _ _ _ h]
theorem shs_y : ∀ (n : Nat) (S : zS), (shs n S).2.2 = S.2.2
  | 0, S => rfl
  | n + 1, S => by rw [shs, shs_y n]; rfl
theorem shs_i (a : Nat) (h : ¬ a = 31) : ∀ (n : Nat) (S : zS), (shs n S).2.1 a = S.2.1 a
  | 0, S => rfl
  | n + 1, S => by
    rw [shs, shs_i a h n]
    funext b
    show (if a = 31 ∧ b = 0 then _ else _) = _
    rw [if_neg (fun z => h z.1)]
theorem shs_w (k : Nat) : ∀ (n : Nat) (S : zS), n < 136 → wn (shs n S) k 136 = wn S k 136
  | 0, S, _ => rfl
  | n + 1, S, h => by
    rw [shs, shs_w k n _ (by omega)]
    unfold wn stp
    rw [sw_0]
    have hlt := (pkn_eq (xo (S.2.1 31 0)) (n := n + 1 + 1) (by omega) (by omega)).2
    exact wnf_sw h (by omega)
theorem shs_b : ∀ (n : Nat) (S : zS), (∀ j, S.1 0 j ≤ 33) → ∀ j, (shs n S).1 0 j ≤ 33
  | 0, S, h => h
  | n + 1, S, h => by
    rw [shs]
    refine shs_b n _ (fun j => ?_)
    unfold stp
    rw [sw_0]
    unfold swf
    split
    · exact h _
    · split
      · exact h _
      · exact h _
theorem w0_a (S : zS) (a : Nat) (h : ¬ a = 0) : (w0 S 136).1 a = S.1 a := by
  funext j
  show (if a = 0 ∧ j < 136 then _ else _) = _
  rw [if_neg (fun z => h z.1)]
theorem w0_cnt : ∀ k, k < 34 → wnf (fun j => j / 4) k 136 = 4 := by decide +kernel
theorem wnf_cg {f g : Nat → Nat} {k : Nat} : ∀ {n}, (∀ j, j < n → f j = g j) → wnf f k n = wnf g k n
  | 0, _ => rfl
  | n + 1, h => by rw [wnf, wnf, wnf_cg (fun j hj => h j (by omega)), h n (by omega)]
theorem shS_a (S : zS) (a : Nat) (h : ¬ (a = 0 ∨ a = 20 ∨ a = 17 ∨ a = 11)) : (shS S).1 a = S.1 a := by
  funext j
  unfold shS
  rw [us_1, us_1, us_1, if_neg (fun z => by omega), if_neg (fun z => by omega), if_neg (fun z => by omega), shs_a a (by omega), w0_a _ _ (by omega)]
theorem shS_y (S : zS) : (shS S).2.2 = S.2.2 := by
  show (shs 135 (w0 S 136)).2.2 = S.2.2
  rw [shs_y]; rfl
theorem shS_i (S : zS) (a : Nat) (h : ¬ a = 31) : (shS S).2.1 a = S.2.1 a := by
  show (shs 135 (w0 S 136)).2.1 a = S.2.1 a
  rw [shs_i _ h]; rfl
theorem shS_11 (S : zS) : (shS S).1 11 0 = 0 := by
  unfold shS
  rw [us_1, if_pos ⟨rfl, rfl⟩]
theorem shS_17 (S : zS) : (shS S).1 17 0 = 0 := by
  unfold shS
  rw [us_1, us_1, if_neg (fun z => absurd z.1 (by decide)), if_pos ⟨rfl, rfl⟩]
theorem shS_20 (S : zS) : (shS S).1 20 0 = 52 := by
  unfold shS
  rw [us_1, us_1, us_1, if_neg (fun z => absurd z.1 (by decide)), if_neg (fun z => absurd z.1 (by decide)), if_pos ⟨rfl, rfl⟩]
theorem shS_0 (S : zS) : (shS S).1 0 = (shs 135 (w0 S 136)).1 0 := by
  funext j
  unfold shS
  rw [us_1, us_1, us_1, if_neg (fun z => absurd z.1 (by decide)), if_neg (fun z => absurd z.1 (by decide)), if_neg (fun z => absurd z.1 (by decide))]
theorem Bd.of {S : zS} (h : ∀ a, a < 30 → ∀ j, S.1 a j ≤ bd a) : Bd S := fun a j ha => h a ha j
theorem Bd.shuf {S : zS} (B : Bd S) : Bd (shS S) := by
  unfold shS
  refine Bd.u (Bd.u (Bd.u (fun a j ha => ?_) (show 52 ≤ bd 20 by decide)) (show 0 ≤ bd 17 by decide)) (show 0 ≤ bd 11 by decide)
  by_cases h : a = 0
  · subst h
    refine shs_b 135 _ (fun j => ?_) j
    show (if 0 = 0 ∧ j < 136 then j / 4 else S.1 0 j) ≤ 33
    split
    · omega
    · exact B.b0 j
  · rw [shs_a a h, w0_a _ _ h]
    exact B a j ha
theorem WfR.c {S S' : zS} (h : WfR S) (h2 : S'.1 2 = S.1 2) (h3 : S'.1 3 = S.1 3) (h4 : S'.1 4 = S.1 4) (h5 : S'.1 5 = S.1 5) (h6 : S'.1 6 = S.1 6) (h7 : S'.1 7 = S.1 7) (hy : S'.2.2 1 = S.2.2 1) : WfR S' := by
  intro p hp
  have := h p hp
  unfold cls df mf rf_ at *
  rw [h2, h3, h4, h5, h6, h7, hy]
  exact this
theorem WfW.c {S S' : zS} (h : WfW S) (h3 : S'.2.1 33 = S.2.1 33) (h6 : S'.2.1 36 = S.2.1 36) (hy : S'.2.2 0 = S.2.2 0) : WfW S' := by
  intro p hp
  rw [h3, h6, hy]
  exact h p hp
theorem Mk.c {S S' : zS} (h : Mk S) (h3 : S'.1 3 = S.1 3) (h6 : S'.1 22 = S.1 22) (hy : S'.1 23 = S.1 23) : Mk S' := by
  intro j
  rw [h3, h6, hy]
  exact h j
theorem Wf.shuf {S : zS} (W : Wf S) (h : ¬ S.1 11 0 = 2) : Wf (shS S) := by
  obtain ⟨B, M, w, r, A, _, o, _, _⟩ := W
  refine ⟨B.shuf, M.c (shS_a _ _ (by omega)) (shS_a _ _ (by omega)) (shS_a _ _ (by omega)), w.c (shS_i _ _ (by omega)) (shS_i _ _ (by omega)) (by rw [shS_y]), r.c (shS_a _ _ (by omega)) (shS_a _ _ (by omega)) (shS_a _ _ (by omega)) (shS_a _ _ (by omega)) (shS_a _ _ (by omega)) (shS_a _ _ (by omega)) (by rw [shS_y]), ⟨fun k hk => ?_, by rw [shS_20]; omega, by rw [shS_20, shS_17]; omega, fun z => absurd (shS_11 S) z, fun _ => ⟨shS_20 S, shS_17 S⟩⟩, fun z => ?_, fun _ p hp => ?_, fun z => ?_, fun z => ?_⟩
  · unfold wn
    rw [shS_0]
    have := shs_w k 135 (w0 S 136) (by omega)
    unfold wn at this
    rw [this, wnf_cg (g := fun j => j / 4)]
    · exact w0_cnt k hk
    · intro j hj
      show (if 0 = 0 ∧ j < 136 then j / 4 else S.1 0 j) = j / 4
      rw [if_pos ⟨rfl, hj⟩]
  · unfold sh at z; rw [shS_11] at z; omega
  · rw [shS_a _ _ (by omega)]; exact o h p hp
  · rw [shS_11] at z; omega
  · rw [shS_11] at z; omega
/-- the two sides' turns make one state -/
theorem Inv.mk {m m1 m2 : zm} {S : zS} (R : Rc m1 S m) (Q : Rr m2 S m1) (W : Wf S) : Inv m2 :=
  ⟨S, R.re (fun q j hq => Q.fr q j hq), Q.re (fun _ _ _ => ⟨rfl, rfl⟩), W⟩
theorem q_next {m : zm} (I : Inv m) {K : Int32 → Int32 → zm → Prop} (hK : ∀ r m', Inv m' → K r r m') : j_Table_next m (fun r1 m1 => j_Model_next m1 (fun r2 m2 => K r1 r2 m2)) := by
  have I' := I
  obtain ⟨S, R, Q, W⟩ := I
  have B := W.1
  have e3 : (m.1 0 3 = 3) = (S.1 11 0 = 3) := ph_eq B R.g11 3 (by omega)
  have f3 : ∀ m1 m0, Rr m1 S m0 → (m1.1 33 3 = 3) = (S.1 11 0 = 3) := fun m1 m0 Q => ph_eq B Q.g11 3 (by omega)
  unfold j_Table_next
  rw [e3]
  refine ⟨fun h => w_Wall_shuffle R (fun m1 R => R.t11 (v := 0) (fun m2 R => ?_)), fun h => ?_⟩
  · have Q := Q.re R.fr
    show j_Model_next m2 (fun r2 m2 => K 1 r2 m2)
    unfold j_Model_next
    rw [f3 _ _ Q]
    exact ⟨fun _ => w_Model_shuffle Q (fun m3 Q => hK _ _ (Inv.mk R Q.toSh (W.shuf (by omega)))), fun z => absurd h z⟩
  · show j_Model_next m (fun r2 m2 => K 0 r2 m2)
    unfold j_Model_next
    rw [f3 _ _ Q]
    exact ⟨fun z => absurd z h, fun _ => hK _ _ I'⟩
