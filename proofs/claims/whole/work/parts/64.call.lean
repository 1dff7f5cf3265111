/-! CALLS: fresh ends, melds are laid, quads completed -/
def ncn (S : zS) (n : Nat) : zS := (fun a j => if a = 7 ∧ j < n then 0 else if a = 16 ∧ j = 0 then 1 else S.1 a j, S.2)
def ncS (S : zS) : zS := ncn S 4
theorem ncn_0 (S : zS) : us S 16 0 1 = ncn S 0 := by
  refine Prod.ext ?_ rfl
  funext a j
  show (if a = 16 ∧ j = 0 then 1 else S.1 a j) = if a = 7 ∧ j < 0 then 0 else if a = 16 ∧ j = 0 then 1 else S.1 a j
  rw [if_neg (c := a = 7 ∧ j < 0) (by omega)]
theorem ncn_s (S : zS) (n : Nat) : us (ncn S n) 7 n 0 = ncn S (n + 1) := by
  refine Prod.ext ?_ rfl
  funext a j
  show (if a = 7 ∧ j = n then 0 else if a = 7 ∧ j < n then 0 else if a = 16 ∧ j = 0 then 1 else S.1 a j) = if a = 7 ∧ j < n + 1 then 0 else if a = 16 ∧ j = 0 then 1 else S.1 a j
  by_cases h : a = 7 ∧ j = n
  · rw [if_pos h, if_pos (by omega)]
  · rw [if_neg h]
    by_cases h2 : a = 7 ∧ j < n
    · rw [if_pos h2, if_pos (by omega)]
    · rw [if_neg h2, if_neg (c := a = 7 ∧ j < n + 1) (by omega)]
theorem w_noteCall {m m0 : zm} {S : zS} {K : zm → Prop} (R : Rc m S m0) (k : ∀ m', Rc m' (ncS S) m0 → K m') : j_Table_noteCall m K := by
  have main : ∀ n i m, i + n = 4 → Rc m (ncn S i) m0 → j_Table_noteCall_L7 K (n + 1) (nI i) m := by
    intro n
    induction n with
    | zero =>
      intro i m hi R
      have e4 : i = 4 := by omega
      subst e4
      rw [j_Table_noteCall_L7, show (4 : Int32) = nI 4 from rfl, pz_le (by omega) (by omega)]
      exact ⟨fun _ => k m R, fun z => absurd (by omega) z⟩
    | succ n ih =>
      intro i m hi R
      rw [j_Table_noteCall_L7, show (4 : Int32) = nI 4 from rfl, pz_le (by omega) (by omega), nI_clamp (by omega)]
      refine ⟨fun z => by omega, fun _ => ⟨pz_in (by omega) (by omega), R.t7 (by omega) (v := 0) (fun m1 R y hy => ?_)⟩⟩
      rw [hy, nI_1]
      rw [ncn_s] at R
      exact ih (i + 1) m1 (by omega) R
  refine R.t16 (v := 1) (fun m1 R => ⟨5, main 4 0 m1 (by omega) ?_⟩)
  rw [ncn_0] at R
  exact R
theorem w_stopEarly {m m0 : zm} {S : zS} {K : zm → Prop} (R : Rr m S m0) (k : ∀ m', Rr m' (ncS S) m0 → K m') : j_Model_stopEarly m K := by
  have main : ∀ n i m, i + n = 4 → Rr m (ncn S i) m0 → j_Model_stopEarly_L7 K (n + 1) (nI i) m := by
    intro n
    induction n with
    | zero =>
      intro i m hi R
      have e4 : i = 4 := by omega
      subst e4
      rw [j_Model_stopEarly_L7, show (4 : Int32) = nI 4 from rfl, pz_le (by omega) (by omega)]
      exact ⟨fun _ => k m R, fun z => absurd (by omega) z⟩
    | succ n ih =>
      intro i m hi R
      rw [j_Model_stopEarly_L7, show (4 : Int32) = nI 4 from rfl, pz_le (by omega) (by omega), nI_clamp (by omega)]
      refine ⟨fun z => by omega, fun _ => ⟨pz_in (by omega) (by omega), R.t7 (by omega) (v := 0) (fun m1 R y hy => ?_)⟩⟩
      rw [hy, nI_1]
      rw [ncn_s] at R
      exact ih (i + 1) m1 (by omega) R
  refine R.t16 (v := 1) (fun m1 R => ⟨5, main 4 0 m1 (by omega) ?_⟩)
  rw [ncn_0] at R
  exact R
theorem nc_f (S : zS) (a : Nat) (h : ¬ a = 7) (h2 : ¬ a = 16) : (ncS S).1 a = S.1 a := by
  funext j
  show (if a = 7 ∧ j < 4 then 0 else if a = 16 ∧ j = 0 then 1 else S.1 a j) = _
  rw [if_neg (by omega), if_neg (by omega)]
theorem nc_7 (S : zS) {p : Nat} (hp : p < 4) : (ncS S).1 7 p = 0 := by
  show (if 7 = 7 ∧ p < 4 then 0 else _) = 0
  rw [if_pos ⟨rfl, hp⟩]
theorem nc_us (S : zS) {a i v : Nat} (h : ¬ a = 7) (h2 : ¬ a = 16) : ncS (us S a i v) = us (ncS S) a i v := by
  refine Prod.ext ?_ rfl
  funext b j
  show (if b = 7 ∧ j < 4 then 0 else if b = 16 ∧ j = 0 then 1 else if b = a ∧ j = i then v else S.1 b j) = if b = a ∧ j = i then v else if b = 7 ∧ j < 4 then 0 else if b = 16 ∧ j = 0 then 1 else S.1 b j
  by_cases e : b = a ∧ j = i
  · rw [if_pos e, if_pos e, if_neg (by omega), if_neg (by omega)]
  · rw [if_neg e, if_neg e]
theorem nc_nc (S : zS) : ncS (ncS S) = ncS S := by
  refine Prod.ext ?_ rfl
  funext b j
  show (if b = 7 ∧ j < 4 then 0 else if b = 16 ∧ j = 0 then 1 else if b = 7 ∧ j < 4 then 0 else if b = 16 ∧ j = 0 then 1 else S.1 b j) = if b = 7 ∧ j < 4 then 0 else if b = 16 ∧ j = 0 then 1 else S.1 b j
  by_cases e : b = 7 ∧ j < 4
  · rw [if_pos e, if_pos e]
  · rw [if_neg e, if_neg e]
    by_cases e2 : b = 16 ∧ j = 0
    · rw [if_pos e2, if_pos e2]
    · rw [if_neg e2, if_neg e2]
theorem Bd.nc {S : zS} (B : Bd S) : Bd (ncS S) := by
  intro a j ha
  show (if a = 7 ∧ j < 4 then 0 else if a = 16 ∧ j = 0 then 1 else S.1 a j) ≤ bd a
  split
  · exact Nat.zero_le _
  · split
    · rename_i h; rw [h.1]; show 1 ≤ 1; omega
    · exact B a j ha
/-! melds -/
def amS (S : zS) (p k f : Nat) : zS := us (us (us (us S 3 (4 * p + S.1 2 p) (4 * k + f)) 2 p (S.1 2 p + 1)) 22 (4 * p + S.1 2 p) k) 23 (4 * p + S.1 2 p) f
theorem w_addMeld {p k f : Nat} {m m0 : zm} {S : zS} {K : zm → Prop} (R : Rc m S m0) (hp : p < 4) (hw : S.1 2 p < 4) (kk : ∀ m', Rc m' (amS S p k f) m0 → K m') : j_Player_addMeld (13 + 5 * p) (nI k) (nI f) m K := by
  unfold j_Player_addMeld
  rw [pz_4, R.g2 hp, nI_clamp (by omega), show (4 : Int32) = nI 4 from rfl, pz_le (by omega) (by omega)]
  refine ⟨fun z => by omega, fun _ => ⟨pz_in hw (by omega), R.t3 hp hw (fun m1 R => ?_)⟩⟩
  rw [show m1.1 (13 + 5 * p) 2 = nI (S.1 2 p) from R.g2 hp, nI_1]
  refine R.t2 hp (fun m2 R => kk m2 ?_)
  exact (R.x 22 _ k (fun _ h => h)).x 23 _ f (fun _ h => h)
theorem w_lay {p k f : Nat} {m m0 : zm} {S : zS} {K : zm → Prop} (R : Rr m S m0) (hp : p < 4) (hw : S.1 2 p < 4) (kk : ∀ m', Rr m' (amS S p k f) m0 → K m') : j_Model_lay (nI p) (nI f) (nI k) m K := by
  unfold j_Model_lay
  rw [nI_clamp (by omega), R.g2 hp, pz_4, nI_clamp (by omega)]
  refine ⟨pz_in hp (by omega), pz_in (by omega) (by omega), R.t22 (by omega) (fun m1 R => ?_)⟩
  rw [show m1.1 37 p = nI (S.1 2 p) from R.g2 hp, pz_4, nI_clamp (by omega)]
  refine ⟨pz_in hp (by omega), pz_in (by omega) (by omega), R.t23 (by omega) (fun m2 R => ⟨pz_in hp (by omega), pz_in hp (by omega), ?_⟩)⟩
  rw [show m2.1 37 p = nI (S.1 2 p) from R.g2 hp, nI_1]
  refine R.t2 hp (fun m3 R => kk m3 ?_)
  have R := R.x 3 (4 * p + S.1 2 p) (4 * k + f) (fun _ h => h)
  refine Eq.mp (congrArg (fun T => Rr m3 T m0) ?_) R
  unfold amS
  refine Prod.ext ?_ rfl
  funext a j
  simp only [us_1]
  by_cases h0 : a = 22
  · subst h0; simp
  by_cases h1 : a = 23
  · subst h1; simp
  by_cases h2 : a = 2
  · subst h2; simp
  by_cases h3 : a = 3
  · subst h3; simp
  simp [h0, h1, h2, h3]
theorem am_f (S : zS) (p k f a : Nat) (h : ¬ (a = 3 ∨ a = 2 ∨ a = 22 ∨ a = 23)) : (amS S p k f).1 a = S.1 a := by
  funext j
  unfold amS
  rw [us_1, us_1, us_1, us_1, if_neg (by omega), if_neg (by omega), if_neg (by omega), if_neg (by omega)]
theorem am_2 (S : zS) (p k f r : Nat) : (amS S p k f).1 2 r = if r = p then S.1 2 p + 1 else S.1 2 r := by
  unfold amS
  rw [us_1, us_1, us_1, us_1, if_neg (by omega), if_neg (by omega)]
  by_cases h : r = p
  · rw [if_pos ⟨rfl, h⟩, if_pos h]
  · rw [if_neg (fun z => h z.2), if_neg h, if_neg (by omega)]
theorem am_3 (S : zS) (p k f j : Nat) : (amS S p k f).1 3 j = if j = 4 * p + S.1 2 p then 4 * k + f else S.1 3 j := by
  unfold amS
  rw [us_1, us_1, us_1, us_1, if_neg (by omega), if_neg (by omega), if_neg (by omega)]
  by_cases h : j = 4 * p + S.1 2 p
  · rw [if_pos ⟨rfl, h⟩, if_pos h]
  · rw [if_neg (fun z => h z.2), if_neg h]
theorem am_22 (S : zS) (p k f j : Nat) : (amS S p k f).1 22 j = if j = 4 * p + S.1 2 p then k else S.1 22 j := by
  unfold amS
  rw [us_1, us_1, us_1, us_1, if_neg (by omega)]
  by_cases h : j = 4 * p + S.1 2 p
  · rw [if_pos ⟨rfl, h⟩, if_pos h]
  · rw [if_neg (fun z => h z.2), if_neg h, if_neg (by omega), if_neg (by omega)]
theorem am_23 (S : zS) (p k f j : Nat) : (amS S p k f).1 23 j = if j = 4 * p + S.1 2 p then f else S.1 23 j := by
  unfold amS
  rw [us_1, us_1, us_1, us_1]
  by_cases h : j = 4 * p + S.1 2 p
  · rw [if_pos ⟨rfl, h⟩, if_pos h]
  · rw [if_neg (fun z => h z.2), if_neg h, if_neg (by omega), if_neg (by omega), if_neg (by omega)]
theorem Mk.am {S : zS} (M : Mk S) {p k f : Nat} (hf : f < 4) (h : f = 0 → k < 27 ∧ k % 9 ≤ 6) : Mk (amS S p k f) := by
  intro j
  rw [am_22, am_23, am_3]
  by_cases e : j = 4 * p + S.1 2 p
  · rw [if_pos e, if_pos e, if_pos e]
    exact ⟨by omega, by omega, fun z => by have := h (by omega); omega⟩
  · rw [if_neg e, if_neg e, if_neg e]
    exact M j
theorem Bd.am {S : zS} (B : Bd S) {p k f : Nat} (hf : f < 4) (hk : k < 34) (hw : S.1 2 p < 4) : Bd (amS S p k f) := by
  unfold amS
  refine Bd.u (Bd.u (Bd.u (Bd.u B ?_) ?_) ?_) ?_
  · show 4 * k + f ≤ 135; omega
  · show S.1 2 p + 1 ≤ 4; omega
  · show k ≤ 33; omega
  · show f ≤ 3; omega
theorem am_mf (S : zS) {p k f r i : Nat} (hw : S.1 2 p < 4) (hi : i < 4) : mf (amS S p k f) r i = if r = p ∧ i = S.1 2 p then 4 * k + f else mf S r i := by
  unfold mf
  rw [am_3]
  by_cases h : r = p ∧ i = S.1 2 p
  · rw [if_pos h, if_pos (by omega)]
  · rw [if_neg h, if_neg (by omega)]
theorem msum_c {d d' : Nat → Nat} {k : Nat} : ∀ {n}, (∀ i, i < n → d i = d' i) → msum d k n = msum d' k n := by
  intro n
  induction n with
  | zero => intro _; rfl
  | succ n ih =>
    intro h
    rw [msum, msum, ih (fun i hi => h i (by omega)), h n (by omega)]
theorem msum_at {d : Nat → Nat} {k : Nat} : ∀ {n i}, i < n → cin_ (d i) k ≤ msum d k n := by
  intro n
  induction n with
  | zero => intro i h; omega
  | succ n ih =>
    intro i h
    rw [msum]
    by_cases e : i = n
    · rw [e]; omega
    · have := ih (i := i) (by omega); omega
theorem msum_2 {d : Nat → Nat} {k : Nat} : ∀ {n i j}, i < j → j < n → cin_ (d i) k + cin_ (d j) k ≤ msum d k n := by
  intro n
  induction n with
  | zero => intro i j _ h; omega
  | succ n ih =>
    intro i j h1 h2
    rw [msum]
    by_cases e : j = n
    · have := msum_at (d := d) (k := k) (n := n) (i := i) (by omega)
      rw [e]; omega
    · have := ih (i := i) (j := j) h1 (by omega); omega
theorem am_own (S : zS) {p k f r j : Nat} (hw : ∀ q, S.1 2 q ≤ 4) (hp : S.1 2 p < 4) : oS (amS S p k f) r j = oS S r j + (if r = p then cin_ (4 * k + f) j else 0) := by
  unfold oS own_
  rw [cf_c (am_f S p k f 1 (by omega)), am_2]
  by_cases h : r = p
  · subst h
    rw [if_pos rfl, if_pos rfl, msum, am_mf S hp hp, if_pos ⟨rfl, rfl⟩, msum_c (d' := mf S r)]
    · omega
    · intro i hi
      rw [am_mf S hp (by omega), if_neg (by omega)]
  · rw [if_neg h, if_neg h, msum_c (d' := mf S r)]
    · rfl
    · intro i hi
      have := hw r
      rw [am_mf S hp (by omega), if_neg (fun z => h z.1)]
/-! a triplet becomes a quad -/
def rtS (S : zS) (p i t : Nat) : zS := us (us S 3 (4 * p + i) (4 * t + 2)) 23 (4 * p + i) 2
theorem w_raise {p i t : Nat} {m m0 : zm} {S : zS} {K : zm → Prop} (R : Rc m S m0) (B : Bd S) (hp : p < 4) (ht : t < 34) (hi : i < S.1 2 p) (he : mf S p i = 4 * t + 1) (un : ∀ j, j < S.1 2 p → mf S p j = 4 * t + 1 → j = i) (k : ∀ m', Rc m' (rtS S p i t) m0 → K m') : j_Player_raiseTriplet (13 + 5 * p) (nI t) m K := by
  have b2 := B.b2 p
  have e1 : (4 : Int32) * nI t + 1 = nI (4 * t + 1) := pz_4 t 1
  have e2 : (4 : Int32) * nI t + 2 = nI (4 * t + 2) := pz_4 t 2
  have main : ∀ n j m, j + n = S.1 2 p → Rc m (if i < j then us S 3 (4 * p + i) (4 * t + 2) else S) m0 → j_Player_raiseTriplet_L2 (13 + 5 * p) (nI t) K (n + 1) (nI j) m := by
    intro n
    induction n with
    | zero =>
      intro j m hj R
      rw [if_pos (by omega)] at R
      rw [j_Player_raiseTriplet_L2, show m.1 (13 + 5 * p) 2 = nI (S.1 2 p) from R.g2 hp, pz_le (by omega) (by omega)]
      exact ⟨fun _ => k m (R.x 23 _ 2 (fun _ h => h)), fun z => absurd (by omega) z⟩
    | succ n ih =>
      intro j m hj R
      have g2 : m.1 (13 + 5 * p) 2 = nI (S.1 2 p) := by
        rw [R.g2 hp]
        split <;> rfl
      have b3 := B.b3 (4 * p + j)
      have g3 : m.1 (13 + 5 * p + 2) j = nI (S.1 3 (4 * p + j)) := by
        rw [R.g3 hp (by omega)]
        split
        · rw [us_1, if_neg (by omega)]
        · rfl
      rw [j_Player_raiseTriplet_L2, e1, e2, g2, pz_le (by omega) (by omega), nI_clamp (by omega), g3, pz_eq (by omega) (by omega)]
      refine ⟨fun z => by omega, fun _ => ⟨pz_in (by omega) (by omega), fun h y hy => ?_, fun h => ⟨pz_in (by omega) (by omega), ?_⟩⟩⟩
      · rw [hy, nI_1]
        have hne : ¬ j = i := fun z => h (by rw [z]; exact he)
        refine ih (j + 1) m (by omega) ?_
        by_cases q : i < j
        · rw [if_pos q] at R; rw [if_pos (by omega)]; exact R
        · rw [if_neg q] at R; rw [if_neg (by omega)]; exact R
      · have hj2 := un j (by omega) h
        subst hj2
        rw [if_neg (by omega)] at R
        refine R.t3 hp (by omega) (fun m1 R y hy => ?_)
        rw [hy, nI_1]
        refine ih (j + 1) m1 (by omega) ?_
        rw [if_pos (by omega)]
        exact R
  refine ⟨_, main (S.1 2 p) 0 m (by omega) ?_⟩
  rw [if_neg (by omega)]
  exact R
theorem w_hasOpen {p t : Nat} {m m0 : zm} {S : zS} {K : Int32 → zm → Prop} (R : Rc m S m0) (B : Bd S) (hp : p < 4) (ht : t < 34) (hT : (∃ i, i < S.1 2 p ∧ mf S p i = 4 * t + 1) → K 1 m) (hF : ¬ (∃ i, i < S.1 2 p ∧ mf S p i = 4 * t + 1) → K 0 m) : j_Player_hasOpenTriplet (13 + 5 * p) (nI t) m K := by
  have b2 := B.b2 p
  have e1 : (4 : Int32) * nI t + 1 = nI (4 * t + 1) := pz_4 t 1
  have main : ∀ n j, j + n = S.1 2 p → (∀ i, i < j → ¬ mf S p i = 4 * t + 1) → j_Player_hasOpenTriplet_L2 (13 + 5 * p) (nI t) K (n + 1) (nI j) m := by
    intro n
    induction n with
    | zero =>
      intro j hj h
      rw [j_Player_hasOpenTriplet_L2, R.g2 hp, pz_le (by omega) (by omega)]
      exact ⟨fun _ => hF (fun ⟨i, h1, h2⟩ => h i (by omega) h2), fun z => absurd (by omega) z⟩
    | succ n ih =>
      intro j hj h
      have b3 := B.b3 (4 * p + j)
      rw [j_Player_hasOpenTriplet_L2, e1, R.g2 hp, pz_le (by omega) (by omega), nI_clamp (by omega), R.g3 hp (by omega), pz_eq (by omega) (by omega)]
      refine ⟨fun z => by omega, fun _ => ⟨pz_in (by omega) (by omega), fun h2 y hy => ?_, fun h2 => hT ⟨j, by omega, h2⟩⟩⟩
      rw [hy, nI_1]
      refine ih (j + 1) (by omega) (fun i hi => ?_)
      by_cases q : i = j
      · rw [q]; exact h2
      · exact h i (by omega)
  exact ⟨_, main (S.1 2 p) 0 (by omega) (fun i hi => by omega)⟩
theorem w_tripPlace {p t : Nat} {m m0 : zm} {S : zS} {K : Int32 → zm → Prop} (R : Rr m S m0) (B : Bd S) (M : Mk S) (hp : p < 4) (ht : t < 34) (hT : ∀ i, i < S.1 2 p → mf S p i = 4 * t + 1 → K (nI (4 * p + i)) m) (hF : ¬ (∃ i, i < S.1 2 p ∧ mf S p i = 4 * t + 1) → K (-1) m) : j_Model_tripletPlace (nI p) (nI t) m K := by
  have b2 := B.b2 p
  have main : ∀ n j x, j + n = S.1 2 p → ((x = -1 ∧ ∀ i, i < j → ¬ mf S p i = 4 * t + 1) ∨ (∃ i, i < S.1 2 p ∧ mf S p i = 4 * t + 1 ∧ x = nI (4 * p + i))) → j_Model_tripletPlace_L7 (nI p) (nI t) K (n + 1) x (nI (4 * p + j)) m := by
    intro n
    induction n with
    | zero =>
      intro j x hj h
      rw [j_Model_tripletPlace_L7, nI_clamp (by omega), R.g2 hp, pz_4, pz_le (by omega) (by omega)]
      refine ⟨pz_in hp (by omega), fun _ => ?_, fun z => absurd (by omega) z⟩
      rcases h with ⟨e, h⟩ | ⟨i, h1, h2, h3⟩
      · rw [e]; exact hF (fun ⟨i, h1, h2⟩ => h i (by omega) h2)
      · rw [h3]; exact hT i h1 h2
    | succ n ih =>
      intro j x hj h
      have b3 := B.b3 (4 * p + j)
      rw [j_Model_tripletPlace_L7, nI_clamp (by omega), R.g2 hp, pz_4, pz_le (by omega) (by omega), nI_clamp (by omega), R.g22 (by omega), R.g23 (by omega), (M _).1, (M _).2.1, pz_eq (by omega) (by omega), show (1 : Int32) = nI 1 from rfl, pz_eq (by omega) (by omega)]
      have no : ¬ S.1 3 (4 * p + j) = 4 * t + 1 → j_Model_tripletPlace_L50 (nI p) (nI t) (j_Model_tripletPlace_L7 (nI p) (nI t) K (n + 1)) K (nI (4 * p + j)) x m := by
        intro h2 y hy
        rw [hy, nI_1]
        refine ih (j + 1) x (by omega) ?_
        rcases h with ⟨e, h⟩ | h
        · refine Or.inl ⟨e, fun i hi => ?_⟩
          by_cases q : i = j
          · rw [q]; exact h2
          · exact h i (by omega)
        · exact Or.inr h
      refine ⟨pz_in hp (by omega), fun z => by omega, fun _ => ⟨pz_in (by omega) (by omega), fun h2 => no (by omega), fun h2 => ⟨pz_in (by omega) (by omega), fun h3 => no (by omega), fun h3 y hy => ?_⟩⟩⟩
      rw [hy, nI_1]
      refine ih (j + 1) _ (by omega) (Or.inr ⟨j, by omega, ?_, rfl⟩)
      unfold mf
      omega
  intro y hy
  rw [hy, pz_4m]
  exact ⟨_, main (S.1 2 p) 0 (-1) (by omega) (Or.inl ⟨rfl, fun i hi => by omega⟩)⟩
/-! completing a quad -/
def cqS (S : zS) (p : Nat) : zS := gvS (us (ncS S) 17 0 (S.1 17 0 + 1)) p (S.1 0 (135 - S.1 17 0)) 1
theorem gv_who {S : zS} {p k rep : Nat} (h : S.1 14 0 = p) : us (us (us (us (us (us (us S 21 0 (k + 1)) 1 (34 * p + k) (S.1 1 (34 * p + k) + 1)) 8 p (if S.1 6 p = 0 then 0 else S.1 8 p)) 11 0 1) 18 0 rep) 24 0 rep) 26 0 (k + 1) = gvS S p k rep := by
  unfold gvS
  rw [show us S 14 0 p = S from by rw [← h, us_id]]
theorem sb_136 {a b : Nat} (h : b ≤ a) : nI a - nI b = nI (a - b) := by
  have : nI a = nI (a - b) + nI b := by rw [nI_add]; congr 1; omega
  rw [this]
  exact Int32.add_sub_cancel _ _
theorem w_completeQuad {p : Nat} {m m0 : zm} {S : zS} {K : zm → Prop} (R : Rc m S m0) (B : Bd S) (hp : p < 4) (h14 : S.1 14 0 = p) (hq : S.1 17 0 < 4) (kk : ∀ m', Rc m' (cqS S p) m0 → K m') : j_Table_completeQuad m K := by
  refine w_noteCall R (fun m1 R => ?_)
  have b0 := B.b0 (135 - S.1 17 0)
  have g17 : m1.1 11 3 = nI (S.1 17 0) := R.g17
  unfold j_Wall_drawReplacement
  intro y hy
  rw [g17, show (135 : Int32) = nI 135 from rfl, sb_136 (by omega)] at hy
  subst hy
  rw [g17, nI_1]
  refine R.t17 (fun m2 R => w_isPlace (by omega) ⟨fun z => absurd z (by decide), fun _ => ⟨pz_in (by omega) (by omega), ?_⟩⟩)
  rw [nI_clamp (by omega), R.g0 (by omega)]
  refine w_giveDrawn (p := p) (k := S.1 0 (135 - S.1 17 0)) R (B.nc.u (show S.1 17 0 + 1 ≤ 4 by omega)) h14 hp (by omega) (fun m3 R => R.t18 (v := 1) (fun m4 R => kk m4 ?_))
  have R := (R.x 24 0 1 (fun _ h => h)).x 26 0 (S.1 0 (135 - S.1 17 0) + 1) (fun _ h => h)
  unfold cqS
  rw [← gv_who (S := us (ncS S) 17 0 (S.1 17 0 + 1)) h14]
  exact R
theorem w_completeQuadR {p : Nat} {m m0 : zm} {S : zS} {K : zm → Prop} (R : Rr m S m0) (B : Bd S) (hp : p < 4) (hq : S.1 17 0 < 4) (kk : ∀ m', Rr m' (cqS S p) m0 → K m') : j_Model_completeQuad (nI p) m K := by
  have b0 := B.b0 (135 - S.1 17 0)
  unfold j_Model_completeQuad
  rw [R.g17, nI_1]
  refine R.t17 (fun m1 R => w_stopEarly R (fun m2 R => ?_))
  rw [nc_us S (by omega) (by omega)] at R
  have g17 : m2.1 33 16 = nI (S.1 17 0 + 1) := R.g17
  rw [g17, show (136 : Int32) = nI 136 from rfl, sb_136 (by omega), nI_clamp (by omega), R.g0 (by omega)]
  refine ⟨pz_in (by omega) (by omega), ?_⟩
  have e : (us (ncS S) 17 0 (S.1 17 0 + 1)).1 0 (136 - (S.1 17 0 + 1)) = S.1 0 (135 - S.1 17 0) := by
    rw [show 136 - (S.1 17 0 + 1) = 135 - S.1 17 0 by omega]
    rfl
  rw [e]
  exact w_take (rep := 1) R (B.nc.u (show S.1 17 0 + 1 ≤ 4 by omega)) hp (by omega) (by omega) (fun m3 R => kk m3 R)
theorem WfR.nc {S : zS} (r : WfR S) : WfR (ncS S) := by
  intro p hp
  obtain ⟨h1, h2, h3⟩ := r p hp
  refine ⟨?_, ?_, ?_⟩
  · rw [df_c (nc_f S 4 (by omega) (by omega)) (nc_f S 5 (by omega) (by omega))]; exact h1
  · rw [nc_f S 6 (by omega) (by omega), cls_c (nc_f S 2 (by omega) (by omega)) (nc_f S 3 (by omega) (by omega))]; exact h2
  · rw [nc_7 S hp]; intro z; omega
theorem Wg.nc {S : zS} (G : Wg S) : Wg (ncS S) := by
  obtain ⟨B, M, w, r, wc, p1, p2, p3, o⟩ := G
  have f : ∀ a, ¬ a = 7 → ¬ a = 16 → (ncS S).1 a = S.1 a := nc_f S
  refine ⟨B.nc, M.c (f 3 (by omega) (by omega)) (f 22 (by omega) (by omega)) (f 23 (by omega) (by omega)), w.c rfl rfl rfl, r.nc, fun k hk => ?_, ?_, ?_, ?_, fun p hp => ?_⟩
  · unfold wn; rw [f 0 (by omega) (by omega)]; exact wc k hk
  · rw [f 20 (by omega) (by omega)]; exact p1
  · rw [f 20 (by omega) (by omega), f 17 (by omega) (by omega)]; exact p2
  · rw [f 20 (by omega) (by omega), f 25 (by omega) (by omega)]; exact p3
  · rw [f 9 (by omega) (by omega)]; exact o p hp
theorem ssm_c {S T : zS} {p : Nat} (h1 : T.1 1 = S.1 1) (h2 : T.1 2 = S.1 2) : ssm T p = ssm S p := by
  unfold ssm; rw [cf_c h1, h2]
theorem oS_c {S T : zS} {p k : Nat} (h1 : T.1 1 = S.1 1) (h2 : T.1 2 = S.1 2) (h3 : T.1 3 = S.1 3) : oS T p k = oS S p k := by
  unfold oS; rw [cf_c h1, mf_c h3, h2]
theorem tot_c {S T : zS} {k : Nat} (h1 : T.1 1 = S.1 1) (h2 : T.1 2 = S.1 2) (h3 : T.1 3 = S.1 3) : tot T k = tot S k := by
  unfold tot; rw [oS_c h1 h2 h3, oS_c h1 h2 h3, oS_c h1 h2 h3, oS_c h1 h2 h3]
/-- a quad was completed: p gets a tile from the end, and has the turn -/
theorem Wf_cq {S : zS} {p : Nat} (G : Wg S) (N : Wn S) (h28 : S.1 28 0 = 0) (hl : S.1 20 0 + S.1 17 0 < 122) (hq : S.1 17 0 < 4) (hp : p < 4) : Wf (cqS S p) := by
  have b0 := G.1.b0 (135 - S.1 17 0)
  have f : ∀ a, ¬ a = 7 → ¬ a = 16 → ¬ a = 17 → (us (ncS S) 17 0 (S.1 17 0 + 1)).1 a = S.1 a := fun a h1 h2 h3 => by
    funext j
    rw [us_1, if_neg (by omega)]
    exact congrFun (nc_f S a h1 h2) j
  obtain ⟨B, M, w, r, wc, p1, p2, p3, o⟩ := G.nc
  have G2 : Wg (us (ncS S) 17 0 (S.1 17 0 + 1)) := by
    refine ⟨B.u (show S.1 17 0 + 1 ≤ 4 by omega), M.c rfl rfl rfl, w.c rfl rfl rfl, r.c rfl rfl rfl rfl rfl rfl rfl, wc, p1, ?_, p3, o⟩
    show S.1 20 0 + (S.1 17 0 + 1) ≤ 122
    omega
  have f1 := f 1 (by omega) (by omega) (by omega)
  have f2 := f 2 (by omega) (by omega) (by omega)
  have f3 := f 3 (by omega) (by omega) (by omega)
  have f20 := f 20 (by omega) (by omega) (by omega)
  refine Wf_gv G2 (fun q hq => ?_) (fun j hj => ?_) ?_ h28 hp (by omega) (by omega)
  · rw [ssm_c f1 f2]; exact N.1 q hq
  · have := N.2.1 j hj
    rw [tot_c f1 f2 f3]
    unfold rst wn at *
    rw [f 0 (by omega) (by omega) (by omega), f20]
    have e17 : (us (ncS S) 17 0 (S.1 17 0 + 1)).1 17 0 = S.1 17 0 + 1 := rfl
    rw [e17]
    have h1 : wnf (S.1 0) j (136 - S.1 17 0) = wnf (S.1 0) j (136 - (S.1 17 0 + 1)) + (if S.1 0 (135 - S.1 17 0) = j then 1 else 0) := by
      rw [show 136 - S.1 17 0 = (135 - S.1 17 0) + 1 by omega, wnf_s, show 136 - (S.1 17 0 + 1) = 135 - S.1 17 0 by omega]
    have h2 : wnf (S.1 0) j (S.1 20 0) ≤ wnf (S.1 0) j (136 - (S.1 17 0 + 1)) := wnf_m (by omega)
    rw [h1] at this
    by_cases e : j = S.1 0 (135 - S.1 17 0)
    · rw [if_pos e.symm] at this
      rw [if_pos e]
      omega
    · rw [if_neg (fun z => e z.symm)] at this
      rw [if_neg e]
      omega
  · have := N.2.2
    unfold rsm msm at *
    rw [f2, f20, f 4 (by omega) (by omega) (by omega)]
    show _ ≤ S.1 20 0 - 52 + (S.1 17 0 + 1) + _
    omega
