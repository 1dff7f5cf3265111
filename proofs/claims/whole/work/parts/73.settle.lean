/-! SETTLING, ON BOTH SIDES -/
theorem Wh.c {S T : zS} (H : Wh S) (B : Bd T) (f : ∀ a, ¬ (a = 8 ∨ a = 28) → T.1 a = S.1 a) (fi : ∀ a, ¬ (a = 30 ∨ a = 35) → T.2.1 a = S.2.1 a) (fy : T.2.2 = S.2.2) : Wh T := by
  obtain ⟨⟨_, M, w, r, wc, p1, p2, p3, o⟩, s, tt, rv, h21, h27, an⟩ := H
  have ej : Ej T S := fun a _ h => f a (by omega)
  refine ⟨⟨B, M.c (f 3 (by omega)) (f 22 (by omega)) (f 23 (by omega)), w.c (fi 33 (by omega)) (fi 36 (by omega)) (by rw [fy]), r.c (f 2 (by omega)) (f 3 (by omega)) (f 4 (by omega)) (f 5 (by omega)) (f 6 (by omega)) (f 7 (by omega)) (by rw [fy]), fun k hk => ?_, by rw [f 20 (by omega)]; exact p1, by rw [f 20 (by omega), f 17 (by omega)]; exact p2, by rw [f 20 (by omega), f 25 (by omega)]; exact p3, fun p hp => by rw [f 9 (by omega)]; exact o p hp⟩, fun p hp => ?_, fun k hk => ?_, ?_, by rw [f 21 (by omega)]; exact h21, by rw [f 27 (by omega), til_c (f 21 (by omega))]; exact h27, fun p hp => ?_⟩
  · unfold wn; rw [f 0 (by omega)]; exact wc k hk
  · rw [ssm_c (S := S) (f 1 (by omega)) (f 2 (by omega))]; exact s p hp
  · have : rst T k = rst S k := by unfold rst wn; rw [f 0 (by omega), f 17 (by omega), f 20 (by omega)]
    rw [tot_c (S := S) (f 1 (by omega)) (f 2 (by omega)) (f 3 (by omega)), til_c (f 21 (by omega)), this]
    exact tt k hk
  · unfold rsm msm at *
    rw [f 4 (by omega), f 2 (by omega), f 20 (by omega), f 17 (by omega)]
    exact rv
  · rw [an_c ej (f 14 (by omega)) (f 10 (by omega)) (fi 32 (by omega))]; exact an p hp
theorem ask_c {S T : zS} (h : T.1 10 = S.1 10) : ask_ T = ask_ S := by unfold ask_; rw [h]
theorem ps_f {S : zS} {a : Nat} (h : ¬ a = 28) : (psS S).1 a = S.1 a := by
  unfold psS
  split
  · funext j
    rw [us_1, if_neg (fun z => h z.1)]
    rfl
  · rfl
theorem ps_i {S : zS} {a : Nat} (h : ¬ (a = 30 ∨ a = 35)) : (psS S).2.1 a = S.2.1 a := by
  unfold psS
  split
  · funext j
    rw [us_2, ui_2, if_neg (by omega), ui_2, if_neg (by omega)]
  · rfl
theorem ps_y {S : zS} : (psS S).2.2 = S.2.2 := by unfold psS; split <;> rfl
theorem ps_B {S : zS} (B : Bd S) : Bd (psS S) := by
  unfold psS
  split
  · exact Bd.u (Bd.ui (Bd.ui B)) (Nat.zero_le _)
  · exact B
theorem h_settle {S : zS} (J : Jg) (H : Wh S) (h0 : S.1 15 0 = 0 → S.1 28 0 = if S.1 19 0 = 1 then S.1 14 0 + 1 else 0) (h1 : S.1 15 0 = 1 → S.1 29 0 = 1 ∧ S.1 28 0 = 0 ∧ 0 < lft S ∧ S.1 17 0 < 4 ∧ ∃ i, i < S.1 2 (S.1 14 0) ∧ mf S (S.1 14 0) i = 4 * til S + 1) : ∃ S', Wf S' ∧ Cst j_Table_settle S S' ∧ Rst j_Model_settle S S' := by
  have B := H.1.1
  have M := H.1.2.1
  have b15 := B.b15 0
  have h21 := H.2.2.2.2.1
  have et : S.1 21 0 = til S + 1 := by unfold til; omega
  have h27 := H.2.2.2.2.2.1
  have f : ∀ a, ¬ a = 8 → (nmS S true 4).1 a = S.1 a := fun a h => nm_f S true 4 a h
  have HT : Wh (nmS S true 4) := H.c (B.nm true 4) (fun a h => f a (by omega)) (fun a _ => rfl) rfl
  have BT := HT.1.1
  have gd : decide (S.1 15 0 = 0 ∨ S.1 29 0 = 1) = true := by
    refine decide_eq_true ?_
    by_cases q : S.1 15 0 = 0
    · exact Or.inl q
    · exact Or.inr (h1 (by omega)).1
  have w14 : ∀ p, p < 4 → S.1 10 p = 4 → ¬ p = S.1 14 0 := fun p hp e => H.n14 hp (by omega)
  by_cases hx : ∃ p, p < 4 ∧ S.1 10 p = 4
  · obtain ⟨S', W, hc, hr⟩ := h_won J HT (by rw [f 10 (by omega)]; exact hx)
    refine ⟨S', W, fun m m0 K R k => ?_, fun m m0 K R k => ?_⟩
    · unfold j_Table_settle
      refine w_noteMissed R B et (fun m1 R => w_findAnswer (w := 4) R BT (by omega) (fun p hp e => ⟨fun z => absurd z (by rw [show (-1 : Int32) = nI 0 - 1 from rfl]; exact ne_m1 hp), fun _ => hc m1 m0 _ R k⟩) (fun z => ?_))
      obtain ⟨p, hp, e⟩ := hx
      exact absurd (by rw [f 10 (by omega)]; exact e) (z p hp)
    · refine w_settleR R B M et h27 H.2.1 w14 (fun m1 x1 R hx1 => ?_)
      rw [gd] at R
      rcases hx1 with ⟨e, h⟩ | ⟨e, h⟩
      · obtain ⟨p, hp, e⟩ := hx
        exact absurd e (h p hp)
      · subst e
        exact ⟨fun z => absurd z (by decide), fun _ => hr m1 m0 _ R k⟩
  · have n4 : ∀ p, p < 4 → ¬ S.1 10 p = 4 := fun p hp e => hx ⟨p, hp, e⟩
    by_cases q : S.1 15 0 = 0
    · have e28 : (psS (nmS S true 4)).1 28 0 = 0 := by
        have hs := h0 q
        unfold psS
        rw [f 19 (by omega)]
        by_cases z : S.1 19 0 = 1
        · rw [if_pos z]; rfl
        · rw [if_neg z, f 28 (by omega), hs, if_neg z]
      have HU : Wh (psS (nmS S true 4)) := HT.c (ps_B BT) (fun a h => ps_f (by omega)) (fun a h => ps_i h) ps_y
      obtain ⟨S', W, hc, hr⟩ := h_over HU e28 (by rw [ps_f (by omega), f 10 (by omega)]; exact n4)
      refine ⟨S', W, fun m m0 K R k => ?_, fun m m0 K R k => ?_⟩
      · unfold j_Table_settle
        refine w_noteMissed R B et (fun m1 R => w_findAnswer (w := 4) R BT (by omega) (fun p hp e => absurd (by rw [f 10 (by omega)] at e; exact e) (n4 p hp)) (fun _ => ⟨fun _ => ⟨fun _ => ?_, fun z => ?_⟩, fun z => absurd rfl z⟩))
        · exact w_payStick R BT (fun m2 R => hc m2 m0 _ R k)
        · exfalso
          rw [R.g15, f 15 (by omega), q] at z
          exact z rfl
      · refine w_settleR R B M et h27 H.2.1 w14 (fun m1 x1 R hx1 => ?_)
        rw [gd] at R
        rcases hx1 with ⟨e, h⟩ | ⟨e, h⟩
        · subst e
          refine ⟨fun _ => ⟨fun _ => ?_, fun z => ?_⟩, fun z => absurd rfl z⟩
          · refine w_payStickR R BT (by rw [f 28 (by omega), f 19 (by omega), f 14 (by omega)]; exact h0 q) (fun m2 R => ?_)
            have := hr m2 m0 K R k
            unfold hoR at this
            rw [ask_c (S := S) (by rw [ps_f (by omega), f 10 (by omega)])] at this
            exact this
          · exfalso
            rw [R.g15, f 15 (by omega), q] at z
            exact z rfl
        · exact absurd h hx
    · obtain ⟨_, a28, al, aq, ax⟩ := h1 (by omega)
      obtain ⟨S', W, hc, hr⟩ := h_added HT (by rw [f 28 (by omega)]; exact a28) (by rw [lft_c2 (f 17 (by omega)) (f 20 (by omega))]; exact al) (by rw [f 17 (by omega)]; exact aq) (by rw [f 2 (by omega), f 14 (by omega), mf_c (f 3 (by omega)), til_c (f 21 (by omega))]; exact ax)
      refine ⟨S', W, fun m m0 K R k => ?_, fun m m0 K R k => ?_⟩
      · unfold j_Table_settle
        refine w_noteMissed R B et (fun m1 R => w_findAnswer (w := 4) R BT (by omega) (fun p hp e => absurd (by rw [f 10 (by omega)] at e; exact e) (n4 p hp)) (fun _ => ⟨fun _ => ⟨fun z => ?_, fun _ => hc m1 m0 _ R k⟩, fun z => absurd rfl z⟩))
        exfalso
        rw [R.g15, f 15 (by omega), pz_0 (by omega)] at z
        exact q z
      · refine w_settleR R B M et h27 H.2.1 w14 (fun m1 x1 R hx1 => ?_)
        rw [gd] at R
        rcases hx1 with ⟨e, h⟩ | ⟨e, h⟩
        · subst e
          refine ⟨fun _ => ⟨fun z => ?_, fun _ => hr m1 m0 _ R k⟩, fun z => absurd rfl z⟩
          exfalso
          rw [R.g15, f 15 (by omega), pz_0 (by omega)] at z
          exact q z
        · exact absurd h hx
/-- nobody may rob the quad -/
theorem h_nobody {S : zS} (H : Wh S) (h15 : S.1 15 0 = 1) (h29 : S.1 29 0 = 0) (n0 : ∀ p, p < 4 → S.1 10 p = 0) (a28 : S.1 28 0 = 0) (al : 0 < lft S) (aq : S.1 17 0 < 4) (ax : ∃ i, i < S.1 2 (S.1 14 0) ∧ mf S (S.1 14 0) i = 4 * til S + 1) : ∃ S', Wf S' ∧ Cst j_Table_completeAddedQuad S S' ∧ Rst j_Model_settle S S' := by
  have B := H.1.1
  have M := H.1.2.1
  have h21 := H.2.2.2.2.1
  have et : S.1 21 0 = til S + 1 := by unfold til; omega
  obtain ⟨S', W, hc, hr⟩ := h_added H a28 al aq ax
  refine ⟨S', W, hc, fun m m0 K R k => ?_⟩
  refine w_settleR R B M et H.2.2.2.2.2.1 H.2.1 (fun p hp e => H.n14 hp (by omega)) (fun m1 x1 R hx1 => ?_)
  rw [show decide (S.1 15 0 = 0 ∨ S.1 29 0 = 1) = false from decide_eq_false (by omega), nm_g] at R
  rcases hx1 with ⟨e, h⟩ | ⟨e, p, hp, h⟩
  · subst e
    refine ⟨fun _ => ⟨fun z => ?_, fun _ => hr m1 m0 _ R k⟩, fun z => absurd rfl z⟩
    exfalso
    rw [R.g15, h15] at z
    exact absurd z (by decide)
  · have := n0 p hp; omega
/-! CLAIMS ARE OFFERED, ON BOTH SIDES -/
def Wd (S : zS) : Prop := Bd S ∧ Mk S ∧ WfW S ∧ WfR S ∧ (∀ k, k < 34 → wn S k 136 = 4) ∧ 52 ≤ S.1 20 0 ∧ S.1 20 0 + S.1 17 0 ≤ 122 ∧ S.1 25 0 = S.1 20 0 ∧ Ws2 S
theorem Wd.o {S : zS} (D : Wd S) : Wo S := by
  obtain ⟨B, M, w, r, wc, p1, p2, p3, s, tt, rv, h21, h27, a0, a1⟩ := D
  refine ⟨B, M, r, h21, s, fun k hk => ?_, p2, p3⟩
  have := tt k hk
  omega
theorem Wo.c2 {D : zS} (H : Wo D) : Wo (us D 11 0 2) := by
  obtain ⟨B, M, r, h⟩ := H
  exact ⟨B.u (show 2 ≤ 4 by omega), M.c rfl rfl rfl, r.c rfl rfl rfl rfl rfl rfl rfl, h⟩
theorem of_11 (D : zS) : ofS (us D 11 0 2) 4 = us (ofS D 4) 11 0 2 := by
  have e : ∀ p, op_ (us D 11 0 2) p = op_ D p := fun p => op_c (fun a _ h => by funext j; rw [us_1, if_neg (by omega)]) rfl rfl rfl
  refine Prod.ext ?_ rfl
  funext a j
  show (if a = 9 ∧ j < 4 then op_ (us D 11 0 2) j else if a = 10 ∧ j < 4 then 0 else if a = 11 ∧ j = 0 then 2 else D.1 a j) = if a = 11 ∧ j = 0 then 2 else if a = 9 ∧ j < 4 then op_ D j else if a = 10 ∧ j < 4 then 0 else D.1 a j
  rw [e]
  by_cases q : a = 11 ∧ j = 0
  · rw [if_pos q, if_neg (by omega), if_neg (by omega), if_pos q]
  · rw [if_neg q, if_neg q]
theorem any_11 (D : zS) : any_ (us D 11 0 2) = any_ D := by
  have e : ∀ p, op_ (us D 11 0 2) p = op_ D p := fun p => op_c (fun a _ h => by funext j; rw [us_1, if_neg (by omega)]) rfl rfl rfl
  unfold any_
  simp only [e]
theorem ofE_f {D : zS} {v a : Nat} (h : ¬ (a = 9 ∨ a = 10 ∨ a = 11 ∨ a = 29)) : (us (us (ofS D 4) 11 0 2) 29 0 v).1 a = D.1 a := by
  funext j
  rw [us_1, us_1, if_neg (by omega), if_neg (by omega), of_f D 4 a (by omega) (by omega)]
theorem ofE_9 {D : zS} {v p : Nat} (hp : p < 4) : (us (us (ofS D 4) 11 0 2) 29 0 v).1 9 p = op_ D p := by
  rw [us_1, us_1, if_neg (by omega), if_neg (by omega)]
  show (if 9 = 9 ∧ p < 4 then op_ D p else _) = _
  rw [if_pos ⟨rfl, hp⟩]
theorem ofE_10 {D : zS} {v p : Nat} (hp : p < 4) : (us (us (ofS D 4) 11 0 2) 29 0 v).1 10 p = 0 := by
  rw [us_1, us_1, if_neg (by omega), if_neg (by omega)]
  show (if 10 = 9 ∧ p < 4 then op_ D p else if 10 = 10 ∧ p < 4 then 0 else _) = _
  rw [if_neg (by omega), if_pos ⟨rfl, hp⟩]
theorem Ws2.c {S T : zS} (h : Ws2 S) (f : ∀ a, ¬ (a = 9 ∨ a = 10 ∨ a = 11 ∨ a = 29 ∨ a = 8) → T.1 a = S.1 a) : Ws2 T := by
  obtain ⟨s, tt, rv, h21, h27, a0, a1⟩ := h
  refine ⟨fun p hp => ?_, fun k hk => ?_, ?_, by rw [f 21 (by omega)]; exact h21, by rw [f 27 (by omega), til_c (f 21 (by omega))]; exact h27, ?_, ?_⟩
  · rw [ssm_c (S := S) (f 1 (by omega)) (f 2 (by omega))]; exact s p hp
  · have : rst T k = rst S k := by unfold rst wn; rw [f 0 (by omega), f 17 (by omega), f 20 (by omega)]
    rw [tot_c (S := S) (f 1 (by omega)) (f 2 (by omega)) (f 3 (by omega)), til_c (f 21 (by omega)), this]
    exact tt k hk
  · unfold rsm msm at *
    rw [f 4 (by omega), f 2 (by omega), f 20 (by omega), f 17 (by omega)]
    exact rv
  · rw [f 15 (by omega), f 28 (by omega), f 19 (by omega), f 14 (by omega)]; exact a0
  · rw [f 15 (by omega), f 28 (by omega), lft_c2 (f 17 (by omega)) (f 20 (by omega)), f 17 (by omega), f 2 (by omega), f 14 (by omega), mf_c (f 3 (by omega)), til_c (f 21 (by omega))]; exact a1
theorem ofE_B {D : zS} (B : Bd D) {v : Nat} (hv : v ≤ 1) : Bd (us (us (ofS D 4) 11 0 2) 29 0 v) := Bd.u (Bd.u (B.ofS 4) (show 2 ≤ 4 by omega)) hv
/-- some may claim: they are asked -/
theorem Wf_of {D : zS} (W : Wd D) : Wf (us (us (ofS D 4) 11 0 2) 29 0 1) := by
  obtain ⟨B, M, w, r, wc, p1, p2, p3, w2⟩ := W
  have f : ∀ a, ¬ (a = 9 ∨ a = 10 ∨ a = 11 ∨ a = 29) → (us (us (ofS D 4) 11 0 2) 29 0 1).1 a = D.1 a := fun a h => ofE_f h
  have e11 : (us (us (ofS D 4) 11 0 2) 29 0 1).1 11 0 = 2 := rfl
  refine ⟨ofE_B B (by omega), M.c (f 3 (by omega)) (f 22 (by omega)) (f 23 (by omega)), w.c rfl rfl rfl, r.c (f 2 (by omega)) (f 3 (by omega)) (f 4 (by omega)) (f 5 (by omega)) (f 6 (by omega)) (f 7 (by omega)) rfl, ⟨fun k hk => ?_, by rw [f 20 (by omega)]; exact p1, by rw [f 20 (by omega), f 17 (by omega)]; exact p2, fun _ => by rw [f 25 (by omega), f 20 (by omega)]; exact p3, fun z => by rw [e11] at z; omega⟩, fun _ p hp => ?_, fun z => absurd e11 z, fun z => by rw [e11] at z; omega, fun _ => ⟨w2.c (fun a h => f a (by omega)), rfl, fun p hp => ⟨Or.inr ?_, Or.inl (ofE_10 hp)⟩⟩⟩
  · unfold wn; rw [f 0 (by omega)]; exact wc k hk
  · rw [ssm_c (S := D) (f 1 (by omega)) (f 2 (by omega))]; exact Or.inl (w2.1 p hp)
  · rw [ofE_9 hp, op_c (S := D) (fun a _ h => f a (by omega)) (f 14 (by omega)) (f 5 (by omega)) (f 8 (by omega))]
theorem Wh_of {D : zS} (W : Wd D) (h0 : any_ D = 0) : Wh (us (us (ofS D 4) 11 0 2) 29 0 0) := by
  obtain ⟨B, M, w, r, wc, p1, p2, p3, w2⟩ := W
  have f : ∀ a, ¬ (a = 9 ∨ a = 10 ∨ a = 11 ∨ a = 29) → (us (us (ofS D 4) 11 0 2) 29 0 0).1 a = D.1 a := fun a h => ofE_f h
  have no : ∀ p, p < 4 → op_ D p = 0 := by
    unfold any_ at h0
    refine bb_iff.mp (Classical.byContradiction (fun z => ?_))
    rw [if_neg z] at h0
    omega
  have w3 : Ws2 (us (us (ofS D 4) 11 0 2) 29 0 0) := w2.c (fun a h => f a (by omega))
  refine ⟨⟨ofE_B B (by omega), M.c (f 3 (by omega)) (f 22 (by omega)) (f 23 (by omega)), w.c rfl rfl rfl, r.c (f 2 (by omega)) (f 3 (by omega)) (f 4 (by omega)) (f 5 (by omega)) (f 6 (by omega)) (f 7 (by omega)) rfl, fun k hk => ?_, by rw [f 20 (by omega)]; exact p1, by rw [f 20 (by omega), f 17 (by omega)]; exact p2, by rw [f 25 (by omega), f 20 (by omega)]; exact p3, fun p hp => by rw [ofE_9 hp]; exact no p hp⟩, w3.1, w3.2.1, w3.2.2.1, w3.2.2.2.1, w3.2.2.2.2.1, fun p hp => Or.inl (ofE_10 hp)⟩
  unfold wn; rw [f 0 (by omega)]; exact wc k hk
/-- after a discard: it is offered -/
theorem h_ask0 {D : zS} {t : Nat} (J : Jg) (W : Wd D) (h21 : D.1 21 0 = t + 1) (h15 : D.1 15 0 = 0) : ∃ S', Wf S' ∧ Cst (fun m K => j_Table_offerClaims m (fun r15 m14 => ((¬ r15 = 0 → K m14) ∧ (r15 = 0 → (j_Table_settle m14 K))))) (us D 11 0 2) S' ∧ Rst (fun m K => ∃ n, j_Model_ask_L15 (nI t) (nI 0) K n 0 0 m) D S' := by
  have Wo' : Wo (us D 11 0 2) := W.o.c2
  rcases anyn_2 D 4 with e | e
  · have e : any_ D = 0 := e
    have H := Wh_of W e
    have w2 := (W.2.2.2.2.2.2.2.2).c (T := us (us (ofS D 4) 11 0 2) 29 0 0) (fun a h => ofE_f (by omega))
    obtain ⟨S', Wf', hc, hr⟩ := h_settle J H w2.2.2.2.2.2.1 (fun z => by
      rw [ofE_f (by omega), h15] at z; omega)
    refine ⟨S', Wf', fun m m0 K R k => ?_, fun m m0 K R k => ?_⟩
    · refine w_offer J R Wo' h21 (fun m1 R => ?_)
      rw [any_11, e]
      rw [of_11] at R
      exact ⟨fun z => absurd rfl z, fun _ => hc m1 m0 K (R.x 29 0 0 (fun _ h => h)) k⟩
    · refine w_ask J R W.o h21 h15 (fun z => ?_) (fun _ m1 R => hr m1 m0 K R k)
      rw [e] at z; omega
  · have e : any_ D = 1 := e
    refine ⟨_, Wf_of W, fun m m0 K R k => ?_, fun m m0 K R k => ?_⟩
    · refine w_offer J R Wo' h21 (fun m1 R => ?_)
      rw [any_11, e]
      rw [of_11] at R
      exact ⟨fun _ => k m1 (R.x 29 0 1 (fun _ h => h)), fun z => absurd z (by decide)⟩
    · refine w_ask J R W.o h21 h15 (fun _ m1 R => k m1 R) (fun z => ?_)
      rw [e] at z; omega
/-- a triplet shall become a quad: it may be robbed -/
theorem h_ask1 {D : zS} {t : Nat} (J : Jg) (W : Wd D) (h21 : D.1 21 0 = t + 1) (h15 : D.1 15 0 = 1) : ∃ S', Wf S' ∧ Cst (fun m K => j_Table_offerClaims m (fun r15 m14 => ((¬ r15 = 0 → K m14) ∧ (r15 = 0 → (j_Table_completeAddedQuad m14 K))))) (us D 11 0 2) S' ∧ Rst (fun m K => ∃ n, j_Model_ask_L15 (nI t) (nI 1) K n 0 0 m) D S' := by
  have Wo' : Wo (us D 11 0 2) := W.o.c2
  rcases anyn_2 D 4 with e | e
  · have e : any_ D = 0 := e
    have H := Wh_of W e
    have w2 := (W.2.2.2.2.2.2.2.2).c (T := us (us (ofS D 4) 11 0 2) 29 0 0) (fun a h => ofE_f (by omega))
    have e15 : (us (us (ofS D 4) 11 0 2) 29 0 0).1 15 0 = 1 := by rw [ofE_f (by omega)]; exact h15
    obtain ⟨a28, al, aq, ax⟩ := w2.2.2.2.2.2.2 e15
    obtain ⟨S', Wf', hc, hr⟩ := h_nobody H e15 rfl (fun p hp => ofE_10 hp) a28 al aq ax
    refine ⟨S', Wf', fun m m0 K R k => ?_, fun m m0 K R k => ?_⟩
    · refine w_offer J R Wo' h21 (fun m1 R => ?_)
      rw [any_11, e]
      rw [of_11] at R
      exact ⟨fun z => absurd rfl z, fun _ => hc m1 m0 K (R.x 29 0 0 (fun _ h => h)) k⟩
    · refine w_ask J R W.o h21 h15 (fun z => ?_) (fun _ m1 R => hr m1 m0 K R k)
      rw [e] at z; omega
  · have e : any_ D = 1 := e
    refine ⟨_, Wf_of W, fun m m0 K R k => ?_, fun m m0 K R k => ?_⟩
    · refine w_offer J R Wo' h21 (fun m1 R => ?_)
      rw [any_11, e]
      rw [of_11] at R
      exact ⟨fun _ => k m1 (R.x 29 0 1 (fun _ h => h)), fun z => absurd z (by decide)⟩
    · refine w_ask J R W.o h21 h15 (fun _ m1 R => k m1 R) (fun z => ?_)
      rw [e] at z; omega
