/-! arrange -/
def fnd (S : zS) (k : Nat) : Nat → Nat → Option Nat
  | 0, _ => none
  | n + 1, i => if S.1 0 i = k then some i else fnd S k n (i + 1)
theorem sw_a (S : zS) (i j a : Nat) (h : ¬ a = 0) : (sw S i j).1 a = S.1 a := funext (fun b => sw_n S i j a b h)
theorem Wf.swp {S : zS} (W : Wf S) (h : S.1 11 0 = 0) {i j : Nat} (hi : i < 136) (hj : j < 136) : Wf (sw S i j) := by
  obtain ⟨B, M, w, r, A, _, o, _, _⟩ := W
  have e11 : (sw S i j).1 11 0 = 0 := by rw [sw_a _ _ _ _ (by omega)]; exact h
  refine ⟨?_, M.c (sw_a _ _ _ _ (by omega)) (sw_a _ _ _ _ (by omega)) (sw_a _ _ _ _ (by omega)), w.c rfl rfl rfl, r.c (sw_a _ _ _ _ (by omega)) (sw_a _ _ _ _ (by omega)) (sw_a _ _ _ _ (by omega)) (sw_a _ _ _ _ (by omega)) (sw_a _ _ _ _ (by omega)) (sw_a _ _ _ _ (by omega)) rfl, ⟨fun k hk => ?_, by rw [sw_a _ _ _ _ (by omega)]; exact A.2.1, by rw [sw_a _ _ _ _ (by omega), sw_a _ _ _ _ (by omega)]; exact A.2.2.1, fun z => absurd e11 z, fun _ => by rw [sw_a _ _ _ _ (by omega), sw_a _ _ _ _ (by omega)]; exact A.2.2.2.2 h⟩, fun z => ?_, fun _ p hp => ?_, fun z => ?_, fun z => ?_⟩
  · exact (B.u (B.b0 _)).u (B.b0 _)
  · unfold wn
    rw [sw_0, wnf_sw hi hj]
    exact A.1 k hk
  · unfold sh at z; rw [e11] at z; omega
  · rw [sw_a _ _ _ _ (by omega)]; exact o (by omega) p hp
  · rw [e11] at z; omega
  · rw [e11] at z; omega
theorem w_bring {to k : Nat} {m m0 : zm} {S : zS} {K : Int32 → zm → Prop} (R : Rc m S m0) (B : Bd S) (hto : to < 136) (hk : k < 34) :
    ∀ (n i : Nat), i + n = 136 → (fnd S k n i = none → K 0 m) → (∀ j, fnd S k n i = some j → j < 136 → ∀ m', Rc m' (sw S to j) m0 → K 1 m') → j_Wall_bringTo_L18 (nI to) (nI k) K (n + 1) (nI i) m := by
  intro n
  induction n with
  | zero =>
    intro i hi h1 _
    have hi : i = 136 := by omega
    subst hi
    rw [j_Wall_bringTo_L18]
    exact ⟨fun _ => h1 rfl, fun z => absurd (by decide) z⟩
  | succ n ih =>
    intro i hi h1 h2
    rw [j_Wall_bringTo_L18]
    refine ⟨fun z => ?_, fun _ => ⟨pz_in (by omega) (by omega), ?_⟩⟩
    · rw [show (136 : Int32) = nI 136 from rfl, pz_le (by omega) (by omega)] at z; omega
    · have b0 := B.b0 i
      rw [nI_clamp (by omega), R.g0 (by omega), pz_eq (by omega) (by omega)]
      rw [fnd] at h1 h2
      refine ⟨fun z y5 h5 => ?_, fun z => ?_⟩
      · rw [if_neg z] at h1 h2
        rw [h5, nI_1]
        exact ih (i + 1) (by omega) h1 h2
      · rw [if_pos z] at h2
        exact w_exchange R hto (by omega) (fun m' R => h2 i rfl (by omega) m' R)
theorem w_arr {to k : Nat} {m m0 : zm} {S : zS} {K : Int32 → zm → Prop} (R : Rr m S m0) (B : Bd S) (hto : to < 136) (hk : k < 34) :
    ∀ (n i : Nat), i + n = 136 → (fnd S k n i = none → K 0 m) → (∀ j, fnd S k n i = some j → j < 136 → ∀ m', Rr m' (sw S to j) m0 → K 1 m') → j_Model_arrange_L32 (nI to) (nI k) K (n + 1) (nI i) m := by
  intro n
  induction n with
  | zero =>
    intro i hi h1 _
    have hi : i = 136 := by omega
    subst hi
    rw [j_Model_arrange_L32]
    exact ⟨fun _ => h1 rfl, fun z => absurd (by decide) z⟩
  | succ n ih =>
    intro i hi h1 h2
    rw [j_Model_arrange_L32]
    refine ⟨fun z => ?_, fun _ => ⟨pz_in (by omega) (by omega), ?_⟩⟩
    · rw [show (136 : Int32) = nI 136 from rfl, pz_le (by omega) (by omega)] at z; omega
    · have b0 := B.b0 i
      rw [nI_clamp (by omega), nI_clamp (by omega), R.g0 (by omega), pz_eq (by omega) (by omega), R.g0 hto]
      rw [fnd] at h1 h2
      refine ⟨fun z y5 h5 => ?_, fun z => ⟨pz_in hto (by omega), pz_in (by omega) (by omega), ?_⟩⟩
      · rw [if_neg z] at h1 h2
        rw [h5, nI_1]
        exact ih (i + 1) (by omega) h1 h2
      · rw [if_pos z] at h2
        refine R.t0 (by omega) (fun m1 R => ⟨pz_in hto (by omega), R.t0 hto (fun m2 R => ?_)⟩)
        refine h2 i rfl (by omega) m2 ?_
        have e : us (us S 0 i (S.1 0 to)) 0 to k = sw S to i := by
          unfold sw
          by_cases e : to = i
          · subst e; rw [z]
          · rw [us_cm _ (by omega), z]
        rw [← e]
        exact R
theorem q_arrange {a b : Int32} {m : zm} (I : Inv m) {F : Prop → Prop} (hF : ∀ P, P → F P) {K : Int32 → Int32 → zm → Prop} (hK : ∀ r m', Inv m' → K r r m') : j_Table_arrange a b m (fun r1 m1 => F (j_Model_arrange a b m1 (fun r2 m2 => K r1 r2 m2))) := by
  have I' := I
  obtain ⟨S, R, Q, W⟩ := I
  have B := W.1
  have e0 : (m.1 0 3 = 0) = (S.1 11 0 = 0) := ph_eq B R.g11 0 (by omega)
  have f0 : ∀ m1 m0, Rr m1 S m0 → (m1.1 33 3 = 0) = (S.1 11 0 = 0) := fun m1 m0 Q => ph_eq B Q.g11 0 (by omega)
  unfold j_Table_arrange
  rw [e0]
  refine ⟨fun h => ⟨Or.inl rfl, hF _ ?_⟩, fun h => ?_⟩
  · show j_Model_arrange a b m (fun r2 m2 => K 0 r2 m2)
    unfold j_Model_arrange
    rw [f0 _ _ Q]
    exact ⟨fun _ => hK _ _ I', fun z => absurd z h⟩
  · -- the reference's way
    have go : ∀ m1 (r : Int32), Rr m1 S m1 → (a < 0 ∨ nI 136 ≤ a ∨ b < 0 ∨ nI 34 ≤ b → K r 0 m1) → (∀ to k, to < 136 → k < 34 → a = nI to → b = nI k → ∃ n, j_Model_arrange_L32 a b (fun r2 m2 => K r r2 m2) n a m1) → j_Model_arrange a b m1 (fun r2 m2 => K r r2 m2) := by
      intro m1 r Q h1 h2
      unfold j_Model_arrange
      rw [f0 _ _ Q]
      refine ⟨fun z => absurd h z, fun _ => ⟨fun z => h1 (Or.inl z), fun z1 => ⟨fun z => h1 (Or.inr (Or.inl ?_)), fun z2 => ⟨fun z => h1 (Or.inr (Or.inr (Or.inl z))), fun z3 => ⟨fun z4 => ?_, fun z => h1 (Or.inr (Or.inr (Or.inr ?_)))⟩⟩⟩⟩⟩
      · rcases ar_or (n := 136) (by omega) a with ⟨p, hp, rfl⟩ | z9
        · rw [show (135 : Int32) = nI 135 from rfl, pz_lt (by omega) (by omega)] at z; omega
        · exact z9.elim (fun y => absurd y z1) id
      · rcases ar_or (n := 136) (by omega) a with ⟨p, hp, e⟩ | z9
        · rcases ar_or (n := 34) (by omega) b with ⟨k, hk, e2⟩ | z8
          · exact h2 p k hp hk e e2
          · rcases z8 with y | y
            · exact absurd y z3
            · exact absurd (Int32.le_trans y z4) (by decide)
        · rcases z9 with y | y
          · exact absurd y z1
          · exact absurd (Int32.lt_of_lt_of_le (show (135 : Int32) < nI 136 by decide) y) z2
      · rcases ar_or (n := 34) (by omega) b with ⟨k, hk, rfl⟩ | z8
        · exfalso
          apply z
          rw [show (33 : Int32) = nI 33 from rfl, pz_le (by omega) (by omega)]; omega
        · exact z8.elim (fun y => absurd y z3) id
    rcases ar_or (n := 136) (by omega) a with ⟨to, hto, rfl⟩ | ha
    · refine w_isPlace hto ⟨fun z => absurd z (by decide), fun _ => ?_⟩
      rcases ar_or (n := 34) (by omega) b with ⟨k, hk, rfl⟩ | hb
      · refine w_isKind hk ⟨fun _ => ⟨136 - to + 1, w_bring R B hto hk (136 - to) to (by omega) (fun hn => ?_) (fun j hj hj2 m' R => ?_)⟩, fun z => absurd z (by decide)⟩
        · refine ⟨fun _ => ⟨Or.inl rfl, hF _ (go m 0 Q (fun _ => hK _ _ I') (fun to' k' _ _ e e2 => ?_))⟩, fun z => absurd rfl z⟩
          exact ⟨136 - to + 1, w_arr Q B hto hk (136 - to) to (by omega) (fun _ => hK _ _ I') (fun j hj _ _ _ => by rw [hn] at hj; cases hj)⟩
        · refine ⟨fun z => absurd z (by decide), fun _ => ⟨Or.inr rfl, hF _ ?_⟩⟩
          have Q := Q.re R.fr
          refine go m' 1 Q (fun z => ?_) (fun to' k' _ _ e e2 => ?_)
          · exfalso
            rcases z with z | z | z | z
            · exact nI_n0 (by omega) z
            · rw [pz_le (by omega) (by omega)] at z; omega
            · exact nI_n0 (by omega) z
            · rw [pz_le (by omega) (by omega)] at z; omega
          · refine ⟨136 - to + 1, w_arr Q B hto hk (136 - to) to (by omega) (fun hn => by rw [hj] at hn; cases hn) (fun i hi _ m2 Q => ?_)⟩
            rw [hj] at hi
            injection hi with hi
            subst hi
            exact hK _ _ (Inv.mk R Q (W.swp h hto hj2))
      · exact w_isKindF hb ⟨fun z => absurd rfl z, fun _ => ⟨fun _ => ⟨Or.inl rfl, hF _ (go m 0 Q (fun _ => hK _ _ I') (fun to' k' _ hk' _ e2 => absurd e2 (ar_ne (by omega) hb hk')))⟩, fun z => absurd rfl z⟩⟩
    · exact w_isPlaceF ha ⟨fun _ => ⟨fun _ => ⟨Or.inl rfl, hF _ (go m 0 Q (fun _ => hK _ _ I') (fun to' k' ht' _ e _ => absurd e (ar_ne (by omega) ha ht')))⟩, fun z => absurd rfl z⟩, fun z => absurd rfl z⟩
/-! THE START -/
def Sx (x : Int32) (p : Nat) : zS := (fun a j => if (a = 26 ∨ a = 28) ∧ j = 0 then 1 else 0, fun a j => if a = 30 ∧ j < p then 30000 else if a = 31 ∧ j = 0 then x else if a = 36 ∧ j < 4 * p ∧ j % 4 = 0 then -1 else 0, fun _ _ => 0)
def S0 (x : Int32) : zS := us (Sx x 4) 20 0 52
theorem Sx_s (x : Int32) (p : Nat) (hp : p < 4) : ui (ui (Sx x p) 30 p 30000) 36 (4 * p) (-1) = Sx x (p + 1) := by
  refine Prod.ext rfl (Prod.ext ?_ rfl)
  funext a j
  rw [ui_2, ui_2]
  show (if a = 36 ∧ j = 4 * p then (-1 : Int32) else if a = 30 ∧ j = p then 30000 else if a = 30 ∧ j < p then 30000 else if a = 31 ∧ j = 0 then x else if a = 36 ∧ j < 4 * p ∧ j % 4 = 0 then -1 else 0) = if a = 30 ∧ j < p + 1 then 30000 else if a = 31 ∧ j = 0 then x else if a = 36 ∧ j < 4 * (p + 1) ∧ j % 4 = 0 then -1 else 0
  by_cases h1 : a = 36 ∧ j = 4 * p
  · rw [if_pos h1, if_neg (by omega), if_neg (by omega), if_pos (by omega)]
  · rw [if_neg h1]
    by_cases h2 : a = 30 ∧ j = p
    · rw [if_pos h2, if_pos (by omega)]
    · rw [if_neg h2]
      by_cases h3 : a = 30 ∧ j < p
      · rw [if_pos h3, if_pos (by omega)]
      · rw [if_neg h3, if_neg (show ¬ (a = 30 ∧ j < p + 1) by omega)]
        by_cases h4 : a = 31 ∧ j = 0
        · rw [if_pos h4, if_pos h4]
        · rw [if_neg h4, if_neg h4]
          by_cases h5 : a = 36 ∧ j < 4 * p ∧ j % 4 = 0
          · rw [if_pos h5, if_pos (by omega)]
          · rw [if_neg h5, if_neg (by omega)]
theorem Rr_0 (m0 : zm) : Rr (zi_m2 m0) (Sx 0 0) (zi_m2 m0) := by
  have z1 : ∀ q j, 33 ≤ q → (zi_m2 m0).1 q j = 0 := fun q j h => by
    show (if q < 33 then m0.1 q j else 0) = 0
    rw [if_neg (by omega)]
  have z2 : ∀ q j, 33 ≤ q → (zi_m2 m0).2 q j = 0 := fun q j h => by
    show (if q < 33 then m0.2 q j else 0) = 0
    rw [if_neg (by omega)]
  have s0 : ∀ a j, ev a j → sv (Sx 0 0) a j = 0 := by
    intro a j h
    unfold sv vl
    by_cases ha : a < 30
    · rw [if_pos ha]
      show (if a = 21 ∨ a = 26 ∨ a = 28 then nI (if (a = 26 ∨ a = 28) ∧ j = 0 then 1 else 0) - 1 else nI (if (a = 26 ∨ a = 28) ∧ j = 0 then 1 else 0)) = 0
      by_cases h2 : a = 26 ∨ a = 28
      · have hj : j = 0 := by rcases h2 with e | e <;> (subst e; exact h)
        rw [if_pos (by omega), if_pos ⟨h2, hj⟩]; rfl
      · have h3 : ¬ a = 21 := by intro e; subst e; exact h
        rw [if_neg (by omega), if_neg (fun z => h2 z.1)]; rfl
    · rw [if_neg ha]
      show (if a = 30 ∧ j < 0 then (30000 : Int32) else if a = 31 ∧ j = 0 then 0 else if a = 36 ∧ j < 4 * 0 ∧ j % 4 = 0 then -1 else 0) = 0
      rw [if_neg (by omega)]
      split
      · rfl
      · rw [if_neg (by omega)]
  exact ⟨fun a j h => by rw [z1 _ _ (el_ns a j h).1, s0 a j h], fun p hp => z2 _ _ (by omega), fun _ _ _ => ⟨rfl, rfl⟩⟩
theorem zi_1 (x : Int32) (q f : Nat) : (zi_m x).1 q f = if q = 0 ∧ f = 9 then (-1 : Int32) else if q = 11 ∧ f = 1 then x else if q = 11 ∧ f = 2 then 52 else if (q = 13 ∨ q = 18 ∨ q = 23 ∨ q = 28) ∧ f = 9 then 30000 else 0 := rfl
theorem Rc_0n (x : Int32) : ∀ a j, cv a j → (zi_m x).1 (cl a j).1 (cl a j).2 = sv (S0 x) a j
  | 0, j, h => by
    have h : j < 136 := h
    show (zi_m x).1 (12) (j) = nI (if (0 : Nat) = 20 ∧ j = 0 then 52 else (if (0 = 26 ∨ 0 = 28) ∧ j = 0 then 1 else 0))
    rw [zi_1, if_neg (by omega), if_neg (by omega), if_neg (by omega), if_neg (by omega), if_neg (by omega), if_neg (by omega)]; rfl
  | 1, j, h => by
    have h : j < 136 := h
    show (zi_m x).1 (14 + 5 * (j / 34)) (j % 34) = nI (if (1 : Nat) = 20 ∧ j = 0 then 52 else (if (1 = 26 ∨ 1 = 28) ∧ j = 0 then 1 else 0))
    rw [zi_1, if_neg (by omega), if_neg (by omega), if_neg (by omega), if_neg (by omega), if_neg (by omega), if_neg (by omega)]; rfl
  | 2, j, h => by
    have h : j < 4 := h
    show (zi_m x).1 (13 + 5 * j) (2) = nI (if (2 : Nat) = 20 ∧ j = 0 then 52 else (if (2 = 26 ∨ 2 = 28) ∧ j = 0 then 1 else 0))
    rw [zi_1, if_neg (by omega), if_neg (by omega), if_neg (by omega), if_neg (by omega), if_neg (by omega), if_neg (by omega)]; rfl
  | 3, j, h => by
    have h : j < 16 := h
    show (zi_m x).1 (15 + 5 * (j / 4)) (j % 4) = nI (if (3 : Nat) = 20 ∧ j = 0 then 52 else (if (3 = 26 ∨ 3 = 28) ∧ j = 0 then 1 else 0))
    rw [zi_1, if_neg (by omega), if_neg (by omega), if_neg (by omega), if_neg (by omega), if_neg (by omega), if_neg (by omega)]; rfl
  | 4, j, h => by
    have h : j < 4 := h
    show (zi_m x).1 (13 + 5 * j) (4) = nI (if (4 : Nat) = 20 ∧ j = 0 then 52 else (if (4 = 26 ∨ 4 = 28) ∧ j = 0 then 1 else 0))
    rw [zi_1, if_neg (by omega), if_neg (by omega), if_neg (by omega), if_neg (by omega), if_neg (by omega), if_neg (by omega)]; rfl
  | 5, j, h => by
    have h : j < 400 ∧ j % 100 < 96 := h
    show (zi_m x).1 (16 + 5 * (j / 100)) (j % 100) = nI (if (5 : Nat) = 20 ∧ j = 0 then 52 else (if (5 = 26 ∨ 5 = 28) ∧ j = 0 then 1 else 0))
    rw [zi_1, if_neg (by omega), if_neg (by omega), if_neg (by omega), if_neg (by omega), if_neg (by omega), if_neg (by omega)]; rfl
  | 6, j, h => by
    have h : j < 4 := h
    show (zi_m x).1 (13 + 5 * j) (6) = nI (if (6 : Nat) = 20 ∧ j = 0 then 52 else (if (6 = 26 ∨ 6 = 28) ∧ j = 0 then 1 else 0))
    rw [zi_1, if_neg (by omega), if_neg (by omega), if_neg (by omega), if_neg (by omega), if_neg (by omega), if_neg (by omega)]; rfl
  | 7, j, h => by
    have h : j < 4 := h
    show (zi_m x).1 (13 + 5 * j) (7) = nI (if (7 : Nat) = 20 ∧ j = 0 then 52 else (if (7 = 26 ∨ 7 = 28) ∧ j = 0 then 1 else 0))
    rw [zi_1, if_neg (by omega), if_neg (by omega), if_neg (by omega), if_neg (by omega), if_neg (by omega), if_neg (by omega)]; rfl
  | 8, j, h => by
    have h : j < 4 := h
    show (zi_m x).1 (13 + 5 * j) (8) = nI (if (8 : Nat) = 20 ∧ j = 0 then 52 else (if (8 = 26 ∨ 8 = 28) ∧ j = 0 then 1 else 0))
    rw [zi_1, if_neg (by omega), if_neg (by omega), if_neg (by omega), if_neg (by omega), if_neg (by omega), if_neg (by omega)]; rfl
  | 9, j, h => by
    have h : j < 4 := h
    show (zi_m x).1 (13 + 5 * j) (10) = nI (if (9 : Nat) = 20 ∧ j = 0 then 52 else (if (9 = 26 ∨ 9 = 28) ∧ j = 0 then 1 else 0))
    rw [zi_1, if_neg (by omega), if_neg (by omega), if_neg (by omega), if_neg (by omega), if_neg (by omega), if_neg (by omega)]; rfl
  | 10, j, h => by
    have h : j < 4 := h
    show (zi_m x).1 (13 + 5 * j) (11) = nI (if (10 : Nat) = 20 ∧ j = 0 then 52 else (if (10 = 26 ∨ 10 = 28) ∧ j = 0 then 1 else 0))
    rw [zi_1, if_neg (by omega), if_neg (by omega), if_neg (by omega), if_neg (by omega), if_neg (by omega), if_neg (by omega)]; rfl
  | 11, j, h => by
    have h : j = 0 := h
    show (zi_m x).1 (0) (3) = nI (if (11 : Nat) = 20 ∧ j = 0 then 52 else (if (11 = 26 ∨ 11 = 28) ∧ j = 0 then 1 else 0))
    rw [zi_1, if_neg (by omega), if_neg (by omega), if_neg (by omega), if_neg (by omega), if_neg (by omega), if_neg (by omega)]; rfl
  | 12, j, h => by
    have h : j = 0 := h
    show (zi_m x).1 (0) (4) = nI (if (12 : Nat) = 20 ∧ j = 0 then 52 else (if (12 = 26 ∨ 12 = 28) ∧ j = 0 then 1 else 0))
    rw [zi_1, if_neg (by omega), if_neg (by omega), if_neg (by omega), if_neg (by omega), if_neg (by omega), if_neg (by omega)]; rfl
  | 13, j, h => by
    have h : j = 0 := h
    show (zi_m x).1 (0) (5) = nI (if (13 : Nat) = 20 ∧ j = 0 then 52 else (if (13 = 26 ∨ 13 = 28) ∧ j = 0 then 1 else 0))
    rw [zi_1, if_neg (by omega), if_neg (by omega), if_neg (by omega), if_neg (by omega), if_neg (by omega), if_neg (by omega)]; rfl
  | 14, j, h => by
    have h : j = 0 := h
    show (zi_m x).1 (0) (8) = nI (if (14 : Nat) = 20 ∧ j = 0 then 52 else (if (14 = 26 ∨ 14 = 28) ∧ j = 0 then 1 else 0))
    rw [zi_1, if_neg (by omega), if_neg (by omega), if_neg (by omega), if_neg (by omega), if_neg (by omega), if_neg (by omega)]; rfl
  | 15, j, h => by
    have h : j = 0 := h
    show (zi_m x).1 (0) (11) = nI (if (15 : Nat) = 20 ∧ j = 0 then 52 else (if (15 = 26 ∨ 15 = 28) ∧ j = 0 then 1 else 0))
    rw [zi_1, if_neg (by omega), if_neg (by omega), if_neg (by omega), if_neg (by omega), if_neg (by omega), if_neg (by omega)]; rfl
  | 16, j, h => by
    have h : j = 0 := h
    show (zi_m x).1 (0) (13) = nI (if (16 : Nat) = 20 ∧ j = 0 then 52 else (if (16 = 26 ∨ 16 = 28) ∧ j = 0 then 1 else 0))
    rw [zi_1, if_neg (by omega), if_neg (by omega), if_neg (by omega), if_neg (by omega), if_neg (by omega), if_neg (by omega)]; rfl
  | 17, j, h => by
    have h : j = 0 := h
    show (zi_m x).1 (11) (3) = nI (if (17 : Nat) = 20 ∧ j = 0 then 52 else (if (17 = 26 ∨ 17 = 28) ∧ j = 0 then 1 else 0))
    rw [zi_1, if_neg (by omega), if_neg (by omega), if_neg (by omega), if_neg (by omega), if_neg (by omega), if_neg (by omega)]; rfl
  | 18, j, h => by
    have h : j = 0 := h
    show (zi_m x).1 (0) (10) = nI (if (18 : Nat) = 20 ∧ j = 0 then 52 else (if (18 = 26 ∨ 18 = 28) ∧ j = 0 then 1 else 0))
    rw [zi_1, if_neg (by omega), if_neg (by omega), if_neg (by omega), if_neg (by omega), if_neg (by omega), if_neg (by omega)]; rfl
  | 19, j, h => by
    have h : j = 0 := h
    show (zi_m x).1 (0) (12) = nI (if (19 : Nat) = 20 ∧ j = 0 then 52 else (if (19 = 26 ∨ 19 = 28) ∧ j = 0 then 1 else 0))
    rw [zi_1, if_neg (by omega), if_neg (by omega), if_neg (by omega), if_neg (by omega), if_neg (by omega), if_neg (by omega)]; rfl
  | 20, j, h => by
    have h : j = 0 := h
    show (zi_m x).1 (11) (2) = nI (if (20 : Nat) = 20 ∧ j = 0 then 52 else (if (20 = 26 ∨ 20 = 28) ∧ j = 0 then 1 else 0))
    rw [zi_1, if_neg (by omega), if_neg (by omega), if_pos ⟨rfl, rfl⟩, if_pos ⟨rfl, h⟩]; rfl
  | 21, j, h => by
    have h : j = 0 := h
    show (zi_m x).1 (0) (9) = nI (if (21 : Nat) = 20 ∧ j = 0 then 52 else (if (21 = 26 ∨ 21 = 28) ∧ j = 0 then 1 else 0)) - 1
    rw [zi_1, if_pos ⟨rfl, rfl⟩, if_neg (by omega), if_neg (by omega)]; rfl
  | 22, _, h => False.elim h
  | 23, _, h => False.elim h
  | 24, _, h => False.elim h
  | 25, _, h => False.elim h
  | 26, _, h => False.elim h
  | 27, _, h => False.elim h
  | 28, _, h => False.elim h
  | 29, _, h => False.elim h
  | 30, j, h => by
    have h : j < 4 := h
    show (zi_m x).1 (13 + 5 * j) (9) = if (30 : Nat) = 30 ∧ j < 4 then (30000 : Int32) else if (30 : Nat) = 31 ∧ j = 0 then x else if (30 : Nat) = 36 ∧ j < 4 * 4 ∧ j % 4 = 0 then -1 else 0
    rw [zi_1, if_neg (by omega), if_neg (by omega), if_neg (by omega), if_pos (by omega), if_pos ⟨rfl, h⟩]
  | 31, j, h => by
    have h : j = 0 := h
    show (zi_m x).1 (11) (1) = if (31 : Nat) = 30 ∧ j < 4 then (30000 : Int32) else if (31 : Nat) = 31 ∧ j = 0 then x else if (31 : Nat) = 36 ∧ j < 4 * 4 ∧ j % 4 = 0 then -1 else 0
    rw [zi_1, if_neg (by omega), if_pos ⟨rfl, rfl⟩, if_neg (by omega), if_pos ⟨rfl, h⟩]
  | 32, j, h => by
    have h : j < 4 := h
    show (zi_m x).1 (13 + 5 * j) (12) = if (32 : Nat) = 30 ∧ j < 4 then (30000 : Int32) else if (32 : Nat) = 31 ∧ j = 0 then x else if (32 : Nat) = 36 ∧ j < 4 * 4 ∧ j % 4 = 0 then -1 else 0
    rw [zi_1, if_neg (by omega), if_neg (by omega), if_neg (by omega), if_neg (by omega), if_neg (by omega), if_neg (by omega), if_neg (by omega)]
  | 33, j, h => by
    have h : j < 16 := h
    show (zi_m x).1 (17 + 5 * (j / 4)) (j % 4) = if (33 : Nat) = 30 ∧ j < 4 then (30000 : Int32) else if (33 : Nat) = 31 ∧ j = 0 then x else if (33 : Nat) = 36 ∧ j < 4 * 4 ∧ j % 4 = 0 then -1 else 0
    rw [zi_1, if_neg (by omega), if_neg (by omega), if_neg (by omega), if_neg (by omega), if_neg (by omega), if_neg (by omega), if_neg (by omega)]
  | 34, j, h => by
    have h : j = 0 := h
    show (zi_m x).1 (0) (6) = if (34 : Nat) = 30 ∧ j < 4 then (30000 : Int32) else if (34 : Nat) = 31 ∧ j = 0 then x else if (34 : Nat) = 36 ∧ j < 4 * 4 ∧ j % 4 = 0 then -1 else 0
    rw [zi_1, if_neg (by omega), if_neg (by omega), if_neg (by omega), if_neg (by omega), if_neg (by omega), if_neg (by omega), if_neg (by omega)]
  | 35, j, h => by
    have h : j = 0 := h
    show (zi_m x).1 (0) (7) = if (35 : Nat) = 30 ∧ j < 4 then (30000 : Int32) else if (35 : Nat) = 31 ∧ j = 0 then x else if (35 : Nat) = 36 ∧ j < 4 * 4 ∧ j % 4 = 0 then -1 else 0
    rw [zi_1, if_neg (by omega), if_neg (by omega), if_neg (by omega), if_neg (by omega), if_neg (by omega), if_neg (by omega), if_neg (by omega)]
  | 36, _, h => False.elim h
  | _ + 37, _, h => False.elim h
theorem Rc_0 (x : Int32) : Rc (zi_m x) (S0 x) (zi_m x) := ⟨Rc_0n x, fun _ _ => ⟨rfl, rfl⟩, fun _ _ _ => ⟨rfl, rfl⟩⟩
theorem Bd_0 (x : Int32) : Bd (S0 x) := by
  refine Bd.u (fun a j ha => ?_) (show 52 ≤ bd 20 by decide)
  show (if (a = 26 ∨ a = 28) ∧ j = 0 then 1 else 0) ≤ bd a
  split
  · rename_i h
    rcases h.1 with e | e <;> (subst e; decide)
  · omega
theorem mk_0 {f : Nat → Bool} : ∀ {n}, (∀ k, k < n → f k = false) → mk_ f n = 0
  | 0, _ => rfl
  | n + 1, h => by rw [mk_, h n (by omega), mk_0 (fun k hk => h k (by omega))]; rfl
theorem Wf_0 (x : Int32) : Wf (shS (S0 x)) := by
  have nz : ∀ a j, ¬ (a = 26 ∨ a = 28 ∨ a = 20) → (S0 x).1 a j = 0 := fun a j h => by
    show (if a = 20 ∧ j = 0 then 52 else if (a = 26 ∨ a = 28) ∧ j = 0 then 1 else 0) = 0
    rw [if_neg (by omega), if_neg (by omega)]
  have B := Bd_0 x
  have e4 : (shS (S0 x)).1 4 = (S0 x).1 4 := shS_a _ _ (by omega)
  refine ⟨B.shuf, fun j => ?_, fun p hp => ?_, fun p hp => ?_, ⟨fun k hk => ?_, by rw [shS_20]; omega, by rw [shS_20, shS_17]; omega, fun z => absurd (shS_11 _) z, fun _ => ⟨shS_20 _, shS_17 _⟩⟩, fun z => ?_, fun _ p hp => ?_, fun z => ?_, fun z => ?_⟩
  · rw [shS_a _ 3 (by omega), shS_a _ 22 (by omega), shS_a _ 23 (by omega), nz 3 j (by omega), nz 22 j (by omega), nz 23 j (by omega)]
    exact ⟨rfl, rfl, fun _ => ⟨by omega, by omega⟩⟩
  · rw [shS_y, shS_i _ 36 (by omega)]
    refine ⟨fun _ => ?_, fun z => absurd rfl z⟩
    show (if (36 : Nat) = 30 ∧ 4 * p < 4 then (30000 : Int32) else if (36 : Nat) = 31 ∧ 4 * p = 0 then x else if (36 : Nat) = 36 ∧ 4 * p < 4 * 4 ∧ 4 * p % 4 = 0 then -1 else 0) = -1
    rw [if_neg (by omega), if_neg (by omega), if_pos (by omega)]
  · rw [shS_y, shS_a _ 6 (by omega), shS_a _ 7 (by omega), nz 6 p (by omega), nz 7 p (by omega)]
    refine ⟨?_, fun z => absurd rfl z, fun z => by omega⟩
    rw [mk_0]
    · rfl
    · intro k _
      refine bb_f ?_
      rintro ⟨i, hi, _⟩
      rw [e4, nz 4 p (by omega)] at hi
      omega
  · unfold wn
    rw [shS_0]
    have := shs_w k 135 (w0 (S0 x) 136) (by omega)
    unfold wn at this
    rw [this, wnf_cg (g := fun j => j / 4)]
    · exact w0_cnt k hk
    · intro j hj
      show (if 0 = 0 ∧ j < 136 then j / 4 else (S0 x).1 0 j) = j / 4
      rw [if_pos ⟨rfl, hj⟩]
  · unfold sh at z; rw [shS_11] at z; omega
  · rw [shS_a _ 9 (by omega)]; exact nz 9 p (by omega)
  · rw [shS_11] at z; omega
  · rw [shS_11] at z; omega
theorem w0_us (S : zS) (v : Nat) : us (w0 S 136) 20 0 v = w0 (us S 20 0 v) 136 := by
  refine Prod.ext ?_ rfl
  funext a j
  show (if a = 20 ∧ j = 0 then v else if a = 0 ∧ j < 136 then j / 4 else S.1 a j) = if a = 0 ∧ j < 136 then j / 4 else if a = 20 ∧ j = 0 then v else S.1 a j
  by_cases h : a = 0 ∧ j < 136
  · rw [if_neg (by omega), if_pos h, if_pos h]
  · rw [if_neg h, if_neg h]
theorem stp_us (S : zS) (i v : Nat) : us (stp S i) 20 0 v = stp (us S 20 0 v) i := by
  unfold stp sw
  rw [us_cm _ (a := 0) (b := 20) (by omega), us_cm _ (a := 0) (b := 20) (by omega)]
  rfl
theorem shs_us (v : Nat) : ∀ (n : Nat) (S : zS), us (shs n S) 20 0 v = shs n (us S 20 0 v)
  | 0, S => rfl
  | n + 1, S => by rw [shs, shs, shs_us v n, stp_us]
theorem us_sh (S : zS) (v : Nat) : shS (us S 20 0 v) = shS S := by
  unfold shS
  rw [← w0_us, ← shs_us, us_us]
theorem zl_start {x : Int32} {a : Int32} {K : zm → Prop} (hx : x = if a = 0 then 1 else a) (hK : ∀ m, Inv m → K m) : j_Wall_shuffle (zi_m x) (fun m0 => j_Model_tail a K (zi_m2 m0)) := by
  refine w_Wall_shuffle (Rc_0 x) (fun m0 R => ?_)
  have key : ∀ (n p : Nat) (m : zm), p + n = 4 → Rr m (Sx x p) (zi_m2 m0) → j_Model_init_L188 a K (n + 1) (nI p) m := by
    intro n
    induction n with
    | zero =>
      intro p m hp Q
      have hp : p = 4 := by omega
      subst hp
      rw [j_Model_init_L188]
      refine ⟨fun _ => w_Model_shuffle Q (fun m2 Q => hK m2 ?_), fun z => absurd (by decide) z⟩
      have Q := Q.toSh
      rw [← us_sh _ 52] at Q
      have R2 : Rc m2 (us (us (shs 135 (w0 (S0 x) 136)) 20 0 52) 17 0 0) m2 := R.re (fun q j hq => by
        rw [(Q.fr q j hq).1, (Q.fr q j hq).2]
        show (if q < 33 then m0.1 q j else 0) = _ ∧ (if q < 33 then m0.2 q j else 0) = _
        rw [if_pos hq, if_pos hq]
        exact ⟨rfl, rfl⟩)
      have e11 : (us (us (shs 135 (w0 (S0 x) 136)) 20 0 52) 17 0 0).1 11 0 = 0 := by
        rw [us_1, us_1, if_neg (by omega), if_neg (by omega), shs_a 11 (by omega), w0_a _ 11 (by omega)]
        rfl
      refine ⟨shS (S0 x), ?_, Q.re (fun _ _ _ => ⟨rfl, rfl⟩), Wf_0 x⟩
      refine R2.con (fun b j _ => ?_) (fun _ _ => ⟨rfl, rfl⟩)
      have e : sv (shS (S0 x)) b j = sv (us (us (us (shs 135 (w0 (S0 x) 136)) 20 0 52) 17 0 0) 11 0 0) b j := rfl
      rw [e]
      unfold sv
      rw [us_1 _ 11 0 0 b j, us_2]
      by_cases h : b = 11 ∧ j = 0
      · rw [if_pos h, h.1, h.2, e11]
      · rw [if_neg h]
    | succ n ih =>
      intro p m hp Q
      rw [j_Model_init_L188]
      refine ⟨fun z => ?_, fun _ => ⟨pz_in (by omega) (by omega), ?_⟩⟩
      · rw [show (4 : Int32) = nI 4 from rfl, pz_le (by omega) (by omega)] at z; omega
      · rw [nI_clamp (by omega), pz_4m, nI_clamp (by omega)]
        refine Q.t30 (by omega) (fun m3 Q => ⟨pz_in (by omega) (by omega), Q.t36 (by omega) (fun m4 Q y5 h5 => ?_)⟩)
        rw [h5, nI_1]
        rw [Sx_s x p (by omega)] at Q
        exact ih (p + 1) m4 (by omega) Q
  have st : ∀ t : Int32, t = x → j_Model_init_L183 a K t (zi_m2 m0) := by
    intro t ht
    refine (Rr_0 m0).t31 (fun m1 Q => ⟨5, ?_⟩)
    refine key 4 0 m1 rfl ?_
    have e : ui (Sx 0 0) 31 0 t = Sx x 0 := by
      refine Prod.ext rfl (Prod.ext ?_ rfl)
      funext b j
      rw [ui_2, ht]
      show (if b = 31 ∧ j = 0 then x else if b = 30 ∧ j < 0 then (30000 : Int32) else if b = 31 ∧ j = 0 then 0 else if b = 36 ∧ j < 4 * 0 ∧ j % 4 = 0 then -1 else 0) = if b = 30 ∧ j < 0 then (30000 : Int32) else if b = 31 ∧ j = 0 then x else if b = 36 ∧ j < 4 * 0 ∧ j % 4 = 0 then -1 else 0
      by_cases h : b = 31 ∧ j = 0
      · rw [if_pos h, if_neg (by omega), if_pos h]
      · rw [if_neg h, if_neg h, if_neg h]
    rw [← e]
    exact Q
  exact ⟨fun h => st a (by rw [hx, if_neg h]), fun h => st 1 (by rw [hx, if_pos h])⟩
