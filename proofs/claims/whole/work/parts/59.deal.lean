theorem Wg.p {S : zS} (G : Wg S) {v : Nat} (h1 : 52 ≤ v) (h2 : v + S.1 17 0 ≤ 122) : Wg (us (us S 20 0 v) 25 0 v) := by
  obtain ⟨B, M, w, r, wc, p1, p2, p3, o⟩ := G
  exact ⟨(B.u (show v ≤ 122 by omega)).u (show v ≤ 122 by omega), M.c rfl rfl rfl, w.c rfl rfl rfl, r.c rfl rfl rfl rfl rfl rfl rfl, wc, h1, h2, rfl, o⟩
theorem Wf_dw {S : zS} {p : Nat} (G : Wg S) (N : Wn S) (h28 : S.1 28 0 = 0) (hl : S.1 20 0 + S.1 17 0 < 122) (hp : p < 4) : Wf (dwS S p) := by
  have G' := G
  obtain ⟨B, M, w, r, wc, p1, p2, p3, o⟩ := G'
  have hk := B.b0 (S.1 20 0)
  refine Wf_gv (G.p (by omega) (by omega)) N.1 (fun j hj => ?_) ?_ h28 hp (by omega) (by omega)
  · have h1 := N.2.1 j hj
    have e : rst (us (us S 20 0 (S.1 20 0 + 1)) 25 0 (S.1 20 0 + 1)) j + (if j = S.1 0 (S.1 20 0) then 1 else 0) = rst S j := by
      have e1 : rst (us (us S 20 0 (S.1 20 0 + 1)) 25 0 (S.1 20 0 + 1)) j = wnf (S.1 0) j (136 - S.1 17 0) - wnf (S.1 0) j (S.1 20 0 + 1) := rfl
      have e2 : rst S j = wnf (S.1 0) j (136 - S.1 17 0) - wnf (S.1 0) j (S.1 20 0) := rfl
      have e3 := wnf_s (f := S.1 0) (k := j) (n := S.1 20 0)
      have e4 := wnf_m (f := S.1 0) (k := j) (show S.1 20 0 + 1 ≤ 136 - S.1 17 0 by omega)
      rw [e1, e2]
      by_cases z : S.1 0 (S.1 20 0) = j
      · rw [if_pos z] at e3; rw [if_pos z.symm]; omega
      · rw [if_neg z] at e3; rw [if_neg (fun y => z y.symm)]; omega
    have e5 : tot (us (us S 20 0 (S.1 20 0 + 1)) 25 0 (S.1 20 0 + 1)) j = tot S j := rfl
    rw [e5]
    omega
  · have h1 := N.2.2
    have e1 : rsm (us (us S 20 0 (S.1 20 0 + 1)) 25 0 (S.1 20 0 + 1)) = rsm S := rfl
    have e2 : msm (us (us S 20 0 (S.1 20 0 + 1)) 25 0 (S.1 20 0 + 1)) = msm S := rfl
    have e3 : (us (us S 20 0 (S.1 20 0 + 1)) 25 0 (S.1 20 0 + 1)).1 20 0 = S.1 20 0 + 1 := rfl
    have e4 : (us (us S 20 0 (S.1 20 0 + 1)) 25 0 (S.1 20 0 + 1)).1 17 0 = S.1 17 0 := rfl
    rw [e1, e2, e3, e4]
    omega
/-! THE DEAL: seat s is the player s behind the dealer -/
def sea (S : zS) (p : Nat) : Nat := (p + 4 - S.1 12 0) % 4
/-- n of the thirteen tiles of a seat -/
def cnt (S : zS) (p k n : Nat) : Nat := wnf (fun i => S.1 0 (13 * sea S p + i)) k n
/-- s seats have been served -/
def dsS (S : zS) (s : Nat) : zS := (fun a j => if a = 1 ∧ j < 136 ∧ sea S (j / 34) < s then cnt S (j / 34) (j % 34) 13 else if (a = 2 ∨ a = 4 ∨ a = 6 ∨ a = 7 ∨ a = 8) ∧ j < 4 ∧ sea S j < s then 0 else S.1 a j, S.2.1, fun a j => if a = 1 ∧ j < 4 ∧ sea S j < s then 0 else S.2.2 a j)
/-- the state before the first draw -/
def dlS (S : zS) : zS := us (us (us (dsS S 4) 16 0 0) 25 0 52) 28 0 0
/-- a player's row of 34 holds f -/
def rowS (T : zS) (p : Nat) (f : Nat → Nat) (n : Nat) : zS := (fun a j => if a = 1 ∧ 34 * p ≤ j ∧ j < 34 * p + n then f (j - 34 * p) else T.1 a j, T.2)
theorem row_s (T : zS) (p n : Nat) (f : Nat → Nat) : us (rowS T p f n) 1 (34 * p + n) (f n) = rowS T p f (n + 1) := by
  refine Prod.ext ?_ rfl
  funext a j
  rw [us_1]
  show (if a = 1 ∧ j = 34 * p + n then f n else if a = 1 ∧ 34 * p ≤ j ∧ j < 34 * p + n then f (j - 34 * p) else T.1 a j) = if a = 1 ∧ 34 * p ≤ j ∧ j < 34 * p + (n + 1) then f (j - 34 * p) else T.1 a j
  by_cases h1 : a = 1 ∧ j = 34 * p + n
  · rw [if_pos h1, if_pos (by omega), h1.2, show 34 * p + n - 34 * p = n by omega]
  · rw [if_neg h1]
    by_cases h2 : a = 1 ∧ 34 * p ≤ j ∧ j < 34 * p + n
    · rw [if_pos h2, if_pos (by omega)]
    · rw [if_neg h2, if_neg (by omega)]
theorem row_0 (T : zS) (p : Nat) (f : Nat → Nat) : rowS T p f 0 = T := by
  refine Prod.ext ?_ rfl
  funext a j
  show (if a = 1 ∧ 34 * p ≤ j ∧ j < 34 * p + 0 then f (j - 34 * p) else T.1 a j) = T.1 a j
  rw [if_neg (by omega)]
theorem row_u (T : zS) (p k : Nat) (f : Nat → Nat) (v : Nat) (hk : k < 34) : us (rowS T p f 34) 1 (34 * p + k) v = rowS T p (upd_ f k v) 34 := by
  refine Prod.ext ?_ rfl
  funext a j
  rw [us_1]
  show (if a = 1 ∧ j = 34 * p + k then v else if a = 1 ∧ 34 * p ≤ j ∧ j < 34 * p + 34 then f (j - 34 * p) else T.1 a j) = if a = 1 ∧ 34 * p ≤ j ∧ j < 34 * p + 34 then (if j - 34 * p = k then v else f (j - 34 * p)) else T.1 a j
  by_cases h1 : a = 1 ∧ j = 34 * p + k
  · rw [if_pos h1, if_pos (by omega), if_pos (by omega)]
  · rw [if_neg h1]
    by_cases h2 : a = 1 ∧ 34 * p ≤ j ∧ j < 34 * p + 34
    · rw [if_pos h2, if_pos h2, if_neg (by omega)]
    · rw [if_neg h2, if_neg h2]
theorem w_fill {p : Nat} {m m0 : zm} {T : zS} {K : zm → Prop} (R : Rc m T m0) (hp : p < 4) (k : ∀ m', Rc m' (rowS T p (fun _ => 0) 34) m0 → K m') : j_JArrays_fill (13 + 5 * p + 1) 0 m K := by
  intro y1 h1
  have e1 : y1 = nI 34 := h1
  subst e1
  have key : ∀ (n i : Nat) (m : zm), i + n = 34 → Rc m (rowS T p (fun _ => 0) i) m0 → j_JArrays_fill_L5 (13 + 5 * p + 1) 0 K (n + 1) (nI i) (nI 34) m := by
    intro n
    induction n with
    | zero =>
      intro i m hi R
      have hi : i = 34 := by omega
      subst hi
      rw [j_JArrays_fill_L5]
      exact ⟨fun _ => k m R, fun z => absurd (Int32.le_refl _) z⟩
    | succ n ih =>
      intro i m hi R
      rw [j_JArrays_fill_L5]
      refine ⟨fun z => ?_, fun _ => ⟨pz_in (by omega) (by omega), ?_⟩⟩
      · rw [pz_le (by omega) (by omega)] at z; omega
      · rw [nI_clamp (by omega)]
        refine R.t1 hp (show i < 34 by omega) (v := 0) (fun m R y3 h3 => ?_)
        rw [h3, nI_1]
        have R := R
        rw [row_s T p i (fun _ => 0)] at R
        exact ih (i + 1) m (by omega) R
  exact ⟨35, key 34 0 m rfl (by rw [row_0]; exact R)⟩
def clS (T : zS) (p : Nat) : zS := us (us (us (uy (us (us (rowS T p (fun _ => 0) 34) 2 p 0) 4 p 0) 1 p 0) 6 p 0) 7 p 0) 8 p 0
theorem w_clearHand {p : Nat} {m m0 : zm} {T : zS} {K : zm → Prop} (R : Rc m T m0) (hp : p < 4) (k : ∀ m', Rc m' (clS T p) m0 → K m') : j_Player_clearHand (13 + 5 * p) m K := by
  refine w_fill R hp (fun m1 R => R.t2 hp (v := 0) (fun m2 R => R.t4 hp (v := 0) (fun m3 R m4 h4 => ?_)))
  have R := R.wd hp h4
  exact R.t6 hp (v := 0) (fun m5 R => R.t7 hp (v := 0) (fun m6 R => R.t8 hp (v := 0) (fun m7 R => k m7 R)))
theorem dealTo_k {S T : zS} {p : Nat} (n : Nat) : upd_ (fun k => cnt S p k n) (S.1 0 (13 * sea S p + n)) (cnt S p (S.1 0 (13 * sea S p + n)) n + 1) = fun k => cnt S p k (n + 1) := by
  funext k
  unfold upd_ cnt
  rw [wnf_s]
  by_cases h : k = S.1 0 (13 * sea S p + n)
  · rw [if_pos h, if_pos h.symm, h]
  · rw [if_neg h, if_neg (fun z => h z.symm)]; rfl
/-- the thirteen tiles of seat s -/
theorem w_dealTo {p s : Nat} {m m0 : zm} {S U : zS} {K : zm → Prop} (R : Rc m (rowS U p (fun _ => 0) 34) m0) (hU : U.1 0 = S.1 0) (B : Bd S) (hp : p < 4) (hs : s = sea S p) (k : ∀ m', Rc m' (rowS U p (fun k => cnt S p k 13) 34) m0 → K m') : j_Wall_dealTo (13 + 5 * p + 1) (nI s) m K := by
  have hs4 : s < 4 := by rw [hs]; unfold sea; omega
  have key : ∀ (n i : Nat) (m : zm), i + n = 13 → Rc m (rowS U p (fun k => cnt S p k i) 34) m0 → j_Wall_dealTo_L2 (13 + 5 * p + 1) (nI s) K (n + 1) (nI i) m := by
    intro n
    induction n with
    | zero =>
      intro i m hi R
      have hi : i = 13 := by omega
      subst hi
      rw [j_Wall_dealTo_L2]
      exact ⟨fun _ => k m R, fun z => absurd (by decide) z⟩
    | succ n ih =>
      intro i m hi R
      rw [j_Wall_dealTo_L2]
      refine ⟨fun z => ?_, fun _ y1 h1 => ?_⟩
      · rw [show (13 : Int32) = nI 13 from rfl, pz_le (by omega) (by omega)] at z; omega
      · have e1 : y1 = nI (13 * s + i) := by rw [h1, ← nI_add]; exact congrArg (· + nI i) (pk_mul 13 s)
        have b0 := B.b0 (13 * s + i)
        have g0 : m.1 12 (13 * s + i) = nI (S.1 0 (13 * s + i)) := by
          rw [R.g0 (by omega)]
          show nI (if (0 : Nat) = 1 ∧ 34 * p ≤ 13 * s + i ∧ 13 * s + i < 34 * p + 34 then cnt S p (13 * s + i - 34 * p) i else U.1 0 (13 * s + i)) = _
          rw [if_neg (by omega), hU]
        have g1 : m.1 (13 + 5 * p + 1) (S.1 0 (13 * s + i)) = nI (cnt S p (S.1 0 (13 * s + i)) i) := by
          rw [R.g1 hp (by omega)]
          show nI (if 1 = 1 ∧ 34 * p ≤ 34 * p + S.1 0 (13 * s + i) ∧ 34 * p + S.1 0 (13 * s + i) < 34 * p + 34 then cnt S p (34 * p + S.1 0 (13 * s + i) - 34 * p) i else _) = _
          rw [if_pos (by omega), show 34 * p + S.1 0 (13 * s + i) - 34 * p = S.1 0 (13 * s + i) by omega]
        rw [e1]
        refine w_isPlace (by omega) ⟨fun z => absurd z (by decide), fun _ => ?_⟩
        rw [nI_clamp (by omega), g0, nI_clamp (by omega), g1, nI_1]
        refine ⟨pz_in (by omega) (by omega), pz_in (by omega) (by omega), pz_in (by omega) (by omega), ?_⟩
        refine R.t1 hp (show S.1 0 (13 * s + i) < 34 by omega) (fun m4 R y5 h5 => ?_)
        rw [h5, nI_1]
        have R := R
        rw [row_u _ _ _ _ _ (show S.1 0 (13 * s + i) < 34 by omega)] at R
        rw [hs, dealTo_k (T := S) i] at R
        exact ih (i + 1) m4 (by omega) R
  refine ⟨14, key 13 0 m rfl ?_⟩
  have : (fun k => cnt S p k 0) = fun _ => 0 := by funext k; rfl
  rw [this]
  exact R
theorem ds_0 (S : zS) : dsS S 0 = S := by
  refine Prod.ext ?_ (Prod.ext rfl ?_)
  · funext a j
    show (if a = 1 ∧ j < 136 ∧ sea S (j / 34) < 0 then _ else if (a = 2 ∨ a = 4 ∨ a = 6 ∨ a = 7 ∨ a = 8) ∧ j < 4 ∧ sea S j < 0 then 0 else S.1 a j) = _
    rw [if_neg (by omega), if_neg (by omega)]
  · funext a j
    show (if a = 1 ∧ j < 4 ∧ sea S j < 0 then 0 else S.2.2 a j) = _
    rw [if_neg (by omega)]
/-- what is told of the row comes last -/
theorem cl_row (T : zS) (p : Nat) (f : Nat → Nat) : rowS (clS T p) p f 34 = us (us (us (uy (us (us (rowS T p f 34) 2 p 0) 4 p 0) 1 p 0) 6 p 0) 7 p 0) 8 p 0 := by
  refine Prod.ext ?_ rfl
  funext a j
  show (if a = 1 ∧ 34 * p ≤ j ∧ j < 34 * p + 34 then f (j - 34 * p) else if a = 8 ∧ j = p then 0 else if a = 7 ∧ j = p then 0 else if a = 6 ∧ j = p then 0 else if a = 4 ∧ j = p then 0 else if a = 2 ∧ j = p then 0 else if a = 1 ∧ 34 * p ≤ j ∧ j < 34 * p + 34 then 0 else T.1 a j) = if a = 8 ∧ j = p then 0 else if a = 7 ∧ j = p then 0 else if a = 6 ∧ j = p then 0 else if a = 4 ∧ j = p then 0 else if a = 2 ∧ j = p then 0 else if a = 1 ∧ 34 * p ≤ j ∧ j < 34 * p + 34 then f (j - 34 * p) else T.1 a j
  by_cases h : a = 1 ∧ 34 * p ≤ j ∧ j < 34 * p + 34
  · rw [if_pos h, if_neg (by omega), if_neg (by omega), if_neg (by omega), if_neg (by omega), if_neg (by omega), if_pos h]
  · rw [if_neg h, if_neg h, if_neg h]
theorem cl_same (T : zS) (p : Nat) : rowS (clS T p) p (fun _ => 0) 34 = clS T p := cl_row T p _
theorem sea_p {S : zS} (hd : S.1 12 0 < 4) {s : Nat} (hs : s < 4) : sea S ((S.1 12 0 + s) % 4) = s := by unfold sea; omega
theorem ds_s {S : zS} (hd : S.1 12 0 < 4) {s : Nat} (hs : s < 4) : rowS (clS (dsS S s) ((S.1 12 0 + s) % 4)) ((S.1 12 0 + s) % 4) (fun k => cnt S ((S.1 12 0 + s) % 4) k 13) 34 = dsS S (s + 1) := by
  have hp : (S.1 12 0 + s) % 4 < 4 := Nat.mod_lt _ (by omega)
  have sp := sea_p hd hs
  have si : ∀ r, r < 4 → sea S r = s → r = (S.1 12 0 + s) % 4 := fun r hr h => by unfold sea at h; omega
  generalize (S.1 12 0 + s) % 4 = p at *
  have sl : ∀ r, r < 4 → (sea S r < s + 1 ↔ sea S r < s ∨ r = p) := fun r hr => ⟨fun h => by
    by_cases e : sea S r = s
    · exact Or.inr (si r hr e)
    · left; omega, fun h => by
    rcases h with h | h
    · omega
    · rw [h, sp]; omega⟩
  refine Prod.ext ?_ (Prod.ext rfl ?_)
  · funext a j
    show (if a = 1 ∧ 34 * p ≤ j ∧ j < 34 * p + 34 then cnt S p (j - 34 * p) 13 else if a = 8 ∧ j = p then 0 else if a = 7 ∧ j = p then 0 else if a = 6 ∧ j = p then 0 else if a = 4 ∧ j = p then 0 else if a = 2 ∧ j = p then 0 else if a = 1 ∧ 34 * p ≤ j ∧ j < 34 * p + 34 then 0 else if a = 1 ∧ j < 136 ∧ sea S (j / 34) < s then cnt S (j / 34) (j % 34) 13 else if (a = 2 ∨ a = 4 ∨ a = 6 ∨ a = 7 ∨ a = 8) ∧ j < 4 ∧ sea S j < s then 0 else S.1 a j) = if a = 1 ∧ j < 136 ∧ sea S (j / 34) < s + 1 then cnt S (j / 34) (j % 34) 13 else if (a = 2 ∨ a = 4 ∨ a = 6 ∨ a = 7 ∨ a = 8) ∧ j < 4 ∧ sea S j < s + 1 then 0 else S.1 a j
    by_cases h1 : a = 1
    · by_cases h2 : 34 * p ≤ j ∧ j < 34 * p + 34
      · have e : j / 34 = p := by omega
        rw [if_pos ⟨h1, h2⟩, if_pos ⟨h1, by omega, by rw [e, sp]; omega⟩, e, show j % 34 = j - 34 * p by omega]
      · rw [if_neg (fun z => h2 z.2), if_neg (by omega), if_neg (by omega), if_neg (by omega), if_neg (by omega), if_neg (by omega), if_neg (fun z => h2 z.2)]
        by_cases h3 : j < 136
        · have h4 := sl (j / 34) (by omega)
          have h5 : ¬ j / 34 = p := by omega
          by_cases h6 : sea S (j / 34) < s
          · rw [if_pos ⟨h1, h3, h6⟩, if_pos ⟨h1, h3, by omega⟩]
          · rw [if_neg (fun z => h6 z.2.2), if_neg (by omega), if_neg (fun z => (h4.mp z.2.2).elim h6 h5), if_neg (by omega)]
        · rw [if_neg (fun z => h3 z.2.1), if_neg (by omega), if_neg (fun z => h3 z.2.1), if_neg (by omega)]
    · simp only [h1, false_and, if_false]
      by_cases h2 : (a = 2 ∨ a = 4 ∨ a = 6 ∨ a = 7 ∨ a = 8) ∧ j < 4
      · have h4 := sl j h2.2
        by_cases h5 : j = p
        · rw [if_pos (show (a = 2 ∨ a = 4 ∨ a = 6 ∨ a = 7 ∨ a = 8) ∧ j < 4 ∧ sea S j < s + 1 from ⟨h2.1, h2.2, h4.mpr (Or.inr h5)⟩)]
          rcases h2.1 with e | e | e | e | e <;> subst e <;> simp [h5]
        · simp only [h5, and_false, if_false]
          by_cases h6 : sea S j < s
          · rw [if_pos ⟨h2.1, h2.2, h6⟩, if_pos ⟨h2.1, h2.2, by omega⟩]
          · rw [if_neg (fun z => h6 z.2.2), if_neg (fun z => (h4.mp z.2.2).elim h6 h5)]
      · rw [if_neg (by omega), if_neg (by omega), if_neg (by omega), if_neg (by omega), if_neg (by omega), if_neg (fun z => h2 ⟨z.1, z.2.1⟩), if_neg (fun z => h2 ⟨z.1, z.2.1⟩)]
  · funext a j
    show (if a = 1 ∧ j = p then 0 else if a = 1 ∧ j < 4 ∧ sea S j < s then 0 else S.2.2 a j) = if a = 1 ∧ j < 4 ∧ sea S j < s + 1 then 0 else S.2.2 a j
    by_cases h1 : a = 1 ∧ j = p
    · rw [if_pos h1, if_pos ⟨h1.1, by omega, by rw [h1.2, sp]; omega⟩]
    · rw [if_neg h1]
      by_cases h2 : a = 1 ∧ j < 4
      · have h4 := sl j h2.2
        by_cases h6 : sea S j < s
        · rw [if_pos ⟨h2.1, h2.2, h6⟩, if_pos ⟨h2.1, h2.2, by omega⟩]
        · rw [if_neg (fun z => h6 z.2.2), if_neg (fun z => (h4.mp z.2.2).elim h6 (fun y => h1 ⟨z.1, y⟩))]
      · rw [if_neg (fun z => h2 ⟨z.1, z.2.1⟩), if_neg (fun z => h2 ⟨z.1, z.2.1⟩)]
