/-! FU, AND A READING IN SETS RATED BY THE TABLE -/
def fuv (x : Nat × Nat × Bool) : Nat := if x.1 = 0 then 0 else (if x.2.2 then 4 else 2) * (if out_ x.2.1 then 2 else 1) * (if x.1 = 2 then 4 else 1)
theorem fus_s (x : Nat → Nat × Nat × Bool) (n : Nat) : fus (lst x (n + 1)) = fus (lst x n) + fuv (x n) := by
  unfold fus
  rw [lst, List.map_append, List.sum_append]
  simp [fuv]
theorem fuv_le (x : Nat × Nat × Bool) : fuv x ≤ 32 := by
  unfold fuv
  repeat' split
  all_goals omega
theorem fus_le (x : Nat → Nat × Nat × Bool) : ∀ n, fus (lst x n) ≤ 32 * n
  | 0 => Nat.le_refl _
  | n + 1 => by
    have := fus_le x n
    have := fuv_le (x n)
    rw [fus_s]; omega
theorem w_fuOfSet {s : Nat → Nat} {w la pr last seat rnd i : Nat} {sd c : Bool} {m : zm} {K : Int32 → zm → Prop} (X : Jx m s w sd la pr last seat rnd c) (hi : i < 4) (k : K (nI (fuv (xs_ s w sd la i))) m) : j_Judge_fuOfSet (nI i) m K := by
  have X' := X
  obtain ⟨g8, _⟩ := X
  obtain ⟨gi, si⟩ := g8 i hi
  unfold j_Judge_fuOfSet
  rw [nI_clamp (by omega), gi, pz_rem4 (by omega)]
  refine ⟨pz_in hi (by omega), fun y1 hy1 => ?_⟩
  subst hy1
  rw [pz_0 (by omega)]
  have ex : fuv (xs_ s w sd la i) = if s i % 4 = 0 then 0 else (if (xs_ s w sd la i).2.2 then 4 else 2) * (if out_ (s i / 4) then 2 else 1) * (if s i % 4 = 1 then 1 else 4) := by
    unfold fuv
    show (if fm (s i) = 0 then 0 else (if (xs_ s w sd la i).2.2 then 4 else 2) * (if out_ (s i / 4) then 2 else 1) * (if fm (s i) = 2 then 4 else 1)) = _
    by_cases h : s i % 4 = 0
    · simp [fm, h]
    · by_cases h2 : s i % 4 = 1
      · simp [fm, h2]
      · simp [fm, h, h2]
  rw [ex] at k
  refine ⟨fun h => w_setClosed X' hi ?_, fun h => by rw [if_pos h] at k; exact k⟩
  rw [if_neg h] at k
  rw [bI_0]
  have l28 : ∀ t, t = (if (xs_ s w sd la i).2.2 then 4 else 2) → j_Judge_fuOfSet_L28 (nI i) K (nI (s i % 4)) (nI t) m := by
    intro t ht
    unfold j_Judge_fuOfSet_L28
    rw [nI_clamp (by omega), gi, pz_div4 (by omega)]
    refine ⟨pz_in hi (by omega), w_isOuter (by omega) ?_⟩
    rw [bI_0]
    have t4 : t = 4 ∨ t = 2 := by rw [ht]; split; exact Or.inl rfl; exact Or.inr rfl
    rw [← ht] at k
    have l49 : ∀ o, o = (if out_ (s i / 4) then 2 else 1) → j_Judge_fuOfSet_L49 (nI i) K (nI (s i % 4)) (nI o) (nI t) m := by
      intro o ho
      have o2 : o = 2 ∨ o = 1 := by rw [ho]; split; exact Or.inl rfl; exact Or.inr rfl
      unfold j_Judge_fuOfSet_L49 j_Judge_fuOfSet_L63
      intro y6 hy6
      have e6 : y6 = nI (t * o) := by
        rw [hy6]
        rcases t4 with e | e <;> rcases o2 with e2 | e2 <;> subst e <;> subst e2 <;> rfl
      rw [e6, show (nI (s i % 4) = 1) = (s i % 4 = 1) from pz_eq (b := 1) (by omega) (by omega)]
      rw [← ho] at k
      refine ⟨fun q => ?_, fun q => ?_⟩
      · rw [if_neg q] at k
        rw [show (4 : Int32) * nI (t * o) = nI (t * o * 4) from by
          rcases t4 with e | e <;> rcases o2 with e2 | e2 <;> rw [e, e2] <;> rfl]
        exact k
      · rw [if_pos q, Nat.mul_one] at k
        exact k
    refine ⟨fun q => l49 1 ?_, fun q => l49 2 ?_⟩
    · rw [q]; rfl
    · rw [ts_nf q]; rfl
  refine ⟨fun q => l28 2 ?_, fun q => l28 4 ?_⟩
  · rw [q]; rfl
  · rw [ts_nf q]; rfl
theorem w_fuOfPair {s : Nat → Nat} {w la pr last seat rnd : Nat} {sd c : Bool} {m : zm} {K : Int32 → zm → Prop} (X : Jx m s w sd la pr last seat rnd c) (k : K (nI ((if 31 ≤ pr then 2 else 0) + (if pr = seat then 2 else 0) + (if pr = rnd then 2 else 0))) m) : j_Judge_fuOfPair m K := by
  obtain ⟨g8, ⟨gp, p34⟩, ⟨gw, w4⟩, gc, ⟨gl, l34⟩, ⟨ga, a4⟩, gd, ⟨gs, s34⟩, ⟨gr, r34⟩⟩ := X
  unfold j_Judge_fuOfPair
  rw [gp, dr_k]
  refine w_has (by omega) ?_
  rw [bI_0, decide_eq_true (show pr ≤ 33 by omega), Bool.and_true]
  have l18 : ∀ t, t = (if 31 ≤ pr then 2 else 0) → j_Judge_fuOfPair_L18 K (nI t) m := by
    intro t ht
    unfold j_Judge_fuOfPair_L18 j_Judge_fuOfPair_L34 j_Judge_fuOfPair_L51
    rw [gp, gs, gr, pz_eq (by omega) (by omega), pz_eq (by omega) (by omega)]
    rw [← ht] at k
    have z : (0 : Int32) = nI 0 := rfl
    have z2 : (2 : Int32) = nI 2 := rfl
    rw [z, z2, nI_add, nI_add, nI_add, nI_add, nI_add, nI_add]
    refine ⟨fun q => ⟨fun q2 => ?_, fun q2 => ?_⟩, fun q => ⟨fun q2 => ?_, fun q2 => ?_⟩⟩
    · rw [if_neg q, if_neg q2] at k; exact k
    · rw [if_neg q, if_pos q2] at k; exact k
    · rw [if_pos q, if_neg q2] at k; exact k
    · rw [if_pos q, if_pos q2] at k; exact k
  refine ⟨fun q => l18 0 ?_, fun q => l18 2 ?_⟩
  · rw [if_neg (of_decide_eq_false q)]
  · rw [if_pos (of_decide_eq_true (ts_nf q))]
theorem w_fuOfLast {s : Nat → Nat} {w la pr last seat rnd : Nat} {sd c : Bool} {m : zm} {K : Int32 → zm → Prop} (X : Jx m s w sd la pr last seat rnd c) (k : K (nI (nar_ last (la4 s la))) m) : j_Judge_fuOfLast m K := by
  obtain ⟨g8, ⟨gp, p34⟩, ⟨gw, w4⟩, gc, ⟨gl, l34⟩, ⟨ga, a4⟩, gd, ⟨gs, s34⟩, ⟨gr, r34⟩⟩ := X
  unfold j_Judge_fuOfLast
  rw [ga, show (nI la < (4 : Int32)) = (la < 4) from pz_lt (b := 4) (by omega) (by omega), nI_clamp (by omega)]
  refine ⟨fun h => ?_, fun h => ?_⟩
  · obtain ⟨gi, si⟩ := g8 la h
    have e : nar_ last (la4 s la) = if s la % 4 = 0 ∧ (last = s la / 4 + 1 ∨ (last = s la / 4 + 2 ∧ s la / 4 % 9 = 0) ∨ (last = s la / 4 ∧ s la / 4 % 9 = 6)) then 2 else 0 := by
      unfold la4
      rw [if_pos h]
      show (if fm (s la) = 0 ∧ _ then 2 else 0) = _
      have : (fm (s la) = 0) = (s la % 4 = 0) := by rw [← fm_0, beq_p]
      simp only [this]
    rw [e] at k
    rw [gi, pz_rem4 (by omega), pz_0 (by omega), pz_div4 (by omega), gl]
    refine ⟨pz_in h (by omega), fun q => ⟨pz_in h (by omega), fun y1 hy1 => ?_⟩, fun q => ?_⟩
    · subst hy1
      rw [nI_1, nI_2, pz_eq (by omega) (by omega), pz_eq (by omega) (by omega), pz_rem9 (by omega), pz_0 (by omega)]
      unfold j_Judge_fuOfLast_L82 j_Judge_fuOfLast_L65 j_Judge_fuOfLast_L86 j_Judge_fuOfLast_L82 j_Judge_fuOfLast_L87 j_Judge_fuOfLast_L97
      rw [gl, pz_eq (by omega) (by omega), pz_rem9 (by omega), show (nI (s la / 4 % 9) = 6) = (s la / 4 % 9 = 6) from pz_eq (b := 6) (by omega) (by omega)]
      have yes : (last = s la / 4 + 1 ∨ (last = s la / 4 + 2 ∧ s la / 4 % 9 = 0) ∨ (last = s la / 4 ∧ s la / 4 % 9 = 6)) → ((1 : Int32) = 0 → K 0 m) ∧ (¬ (1 : Int32) = 0 → K 2 m) := fun z => by
        rw [if_pos ⟨q, z⟩] at k
        exact ⟨fun y => absurd y (by decide), fun _ => k⟩
      have no : ¬ (last = s la / 4 + 1 ∨ (last = s la / 4 + 2 ∧ s la / 4 % 9 = 0) ∨ (last = s la / 4 ∧ s la / 4 % 9 = 6)) → ((0 : Int32) = 0 → K 0 m) ∧ (¬ (0 : Int32) = 0 → K 2 m) := fun z => by
        rw [if_neg (fun y => z y.2)] at k
        exact ⟨fun _ => k, fun y => absurd rfl y⟩
      refine ⟨fun z => yes (by omega), fun z => ⟨fun z2 => ⟨fun z3 => no (by omega), fun z3 => ⟨fun z4 => no (by omega), fun z4 => yes (by omega)⟩⟩, fun z2 => ⟨fun z3 => yes (by omega), fun z3 => ⟨fun z4 => no (by omega), fun z4 => ⟨fun z5 => no (by omega), fun z5 => yes (by omega)⟩⟩⟩⟩⟩
    · rw [if_neg (fun z => q z.1)] at k; exact k
  · have e : nar_ last (la4 s la) = 2 := by unfold la4; rw [if_neg h]; rfl
    rw [e] at k; exact k
theorem ten_9 {a : Nat} (h : a < 1000) : (nI a + 9) / 10 * 10 = nI ((a + 9) / 10 * 10) := by
  rw [show nI a + 9 = nI (a + 9) from nI_add a 9, show nI (a + 9) / 10 = nI ((a + 9) / 10) from pk_div (d := 10) (by omega) (by decide) (by decide)]
  have : ∀ x, x < 110 → nI x * 10 = nI (x * 10) := by decide +kernel
  exact this _ (by omega)
theorem nar_le (last : Nat) (la : Option (Nat × Nat)) : nar_ last la ≤ 2 := by
  cases la with
  | none => exact Nat.le_refl _
  | some x =>
    show (if x.1 = 0 ∧ (last = x.2 + 1 ∨ (last = x.2 + 2 ∧ x.2 % 9 = 0) ∨ (last = x.2 ∧ x.2 % 9 = 6)) then 2 else 0) ≤ 2
    split <;> omega
theorem fu_b {E : zE} {pr : Nat} {x : Nat → Nat × Nat × Bool} {la : Option (Nat × Nat)} : 20 ≤ fu_ E pr (lst x 4) la ∧ fu_ E pr (lst x 4) la < 300 := by
  have h1 := fus_le x 4
  have h2 := nar_le E.2.2.2.2 la
  unfold fu_
  dsimp only
  repeat' split
  all_goals omega
theorem w_countFu {s : Nat → Nat} {w la pr last seat rnd : Nat} {sd c : Bool} {m : zm} {K : Int32 → zm → Prop} (X : Jx m s w sd la pr last seat rnd c) (k : K (nI (fu_ (c, sd, seat, rnd, last) pr (lst (xs_ s w sd la) 4) (la4 s la))) m) : j_Judge_countFu m K := by
  have X' := X
  obtain ⟨g8, ⟨gp, p34⟩, ⟨gw, w4⟩, gc, ⟨gl, l34⟩, ⟨ga, a4⟩, gd, ⟨gs, s34⟩, ⟨gr, r34⟩⟩ := X
  have n2 := nar_le last (la4 s la)
  have p6 : (if 31 ≤ pr then 2 else 0) + (if pr = seat then 2 else 0) + (if pr = rnd then 2 else 0) ≤ 6 := by split <;> split <;> split <;> omega
  unfold j_Judge_countFu
  refine w_fuOfPair X' (w_fuOfLast X' (fun y5 hy5 => ?_))
  generalize hP : (if 31 ≤ pr then 2 else 0) + (if pr = seat then 2 else 0) + (if pr = rnd then 2 else 0) = P at *
  rw [show (20 : Int32) + nI P = nI (20 + P) from nI_add 20 P, nI_add] at hy5
  subst hy5
  have l36 : ∀ b, b = 20 + P + nar_ last (la4 s la) + ((if (c && !sd) then 10 else 0) + (if sd then 2 else 0)) → j_Judge_countFu_L36 K (nI b) m := by
    intro b hb
    have b50 : b ≤ 40 := by rw [hb]; cases c <;> cases sd <;> simp <;> omega
    have main : ∀ n i, i + n = 4 → j_Judge_countFu_L38 K (n + 1) (nI (b + fus (lst (xs_ s w sd la) i))) (nI i) m := by
      intro n
      induction n with
      | zero =>
        intro i hi
        have e : i = 4 := by omega
        subst e
        have f4 := fus_le (xs_ s w sd la) 4
        rw [j_Judge_countFu_L38, show ((4 : Int32) ≤ nI 4) = True from propext ⟨fun _ => trivial, fun _ => by decide⟩, ten_9 (by omega)]
        refine ⟨fun _ y8 hy8 => ?_, fun z => absurd trivial z⟩
        subst hy8
        have ef : fu_ (c, sd, seat, rnd, last) pr (lst (xs_ s w sd la) 4) (la4 s la) = if (b + fus (lst (xs_ s w sd la) 4) + 9) / 10 * 10 = 20 ∧ c = false then 30 else (b + fus (lst (xs_ s w sd la) 4) + 9) / 10 * 10 := by
          unfold fu_
          dsimp only
          rw [hP]
          have : 20 + (if (c && !sd) = true then 10 else 0) + (if sd = true then 2 else 0) + P + nar_ last (la4 s la) + fus (lst (xs_ s w sd la) 4) = b + fus (lst (xs_ s w sd la) 4) := by rw [hb]; omega
          rw [this]
        rw [ef] at k
        unfold j_Judge_countFu_L86 j_Judge_countFu_L87
        rw [show (nI ((b + fus (lst (xs_ s w sd la) 4) + 9) / 10 * 10) = 20) = ((b + fus (lst (xs_ s w sd la) 4) + 9) / 10 * 10 = 20) from pz_eq (b := 20) (by omega) (by omega), gc, bI_0]
        refine ⟨fun q => ?_, fun q => ⟨fun q2 => ?_, fun q2 => ?_⟩⟩
        · rw [if_neg (fun z => q z.1)] at k; exact k
        · rw [if_neg (fun z => q2 z.2)] at k; exact k
        · rw [if_pos ⟨q, q2⟩] at k; exact k
      | succ n ih =>
        intro i hi
        rw [j_Judge_countFu_L38, show ((4 : Int32) ≤ nI i) = (4 ≤ i) from pz_le (a := 4) (by omega) (by omega)]
        refine ⟨fun z => by omega, fun _ => w_fuOfSet X' (by omega) (fun y11 hy11 y12 hy12 => ?_)⟩
        rw [hy12, nI_1, hy11, nI_add, Nat.add_assoc, ← fus_s]
        exact ih (i + 1) (by omega)
    have := main 4 0 (by omega)
    exact ⟨5, this⟩
  rw [gd, gc, bI_0, bI_0]
  refine ⟨fun q => ⟨fun q2 => l36 _ ?_, fun q2 y6 hy6 => ?_⟩, fun q y7 hy7 => ?_⟩
  · rw [q, q2]; simp
  · rw [hy6, show nI (20 + P + nar_ last (la4 s la)) + 10 = nI (20 + P + nar_ last (la4 s la) + 10) from nI_add _ 10]
    refine l36 _ ?_
    rw [q, ts_nf q2]; simp
  · rw [hy7, show nI (20 + P + nar_ last (la4 s la)) + 2 = nI (20 + P + nar_ last (la4 s la) + 2) from nI_add _ 2]
    refine l36 _ ?_
    rw [ts_nf q]; simp
/-- the value of four sets and a pair -/
noncomputable def vL (E : zE) (hp tl_ : Nat → Bool) (dr pr : Nat) (L : List (Nat × Nat × Bool)) (la : Option (Nat × Nat)) : zV :=
  vy (fun y => hp y || tl_ y || sb_ E pr L la y) E.1 dr (if (hp 8 || tl_ 8 || sb_ E pr L la 8) = true ∧ bb (lim_ (fun y => hp y || tl_ y || sb_ E pr L la y)) = false ∧ E.2.1 = true then 20 else fu_ E pr L la)
theorem nrun_R (s : Nat → Nat) (w : Nat) (sd : Bool) (la k : Nat) : ∀ n, nrun (lst (xs_ s w sd la) n) k ≤ nR (lst (xs_ s w sd la) n)
  | 0 => Nat.le_refl _
  | n + 1 => by
    have := nrun_R s w sd la k n
    rw [nrun_s, nR_s]
    by_cases q : s n % 4 = 0
    · rw [if_pos q]; split <;> omega
    · rw [if_neg (fun z => q z.1), if_neg q]; exact this
theorem nR_ex (s : Nat → Nat) (h : ∀ i, i < 4 → s i < 136) (w : Nat) (sd : Bool) (la : Nat) : ∀ n, n ≤ 4 → 0 < nR (lst (xs_ s w sd la) n) → ∃ j, j < 42 ∧ 0 < nrun (lst (xs_ s w sd la) n) j
  | 0 => fun _ z => by
    have : nR (lst (xs_ s w sd la) 0) = 0 := rfl
    omega
  | n + 1 => fun hn z => by
    by_cases q : s n % 4 = 0
    · have := h n (by omega)
      exact ⟨s n / 4, by omega, by rw [nrun_s, if_pos ⟨q, rfl⟩]; omega⟩
    · rw [nR_s, if_neg q] at z
      obtain ⟨j, j1, j2⟩ := nR_ex s h w sd la n (by omega) z
      exact ⟨j, j1, by rw [nrun_s]; omega⟩
theorem nrun_v {s : Nat → Nat} (V : Sv s) (w : Nat) (sd : Bool) (la k : Nat) : ∀ n, n ≤ 4 → 0 < nrun (lst (xs_ s w sd la) n) k → k < 27 ∧ k % 9 ≤ 6
  | 0 => fun _ z => by
    have : nrun (lst (xs_ s w sd la) 0) k = 0 := rfl
    omega
  | n + 1 => fun hn z => by
    rw [nrun_s] at z
    by_cases q : s n % 4 = 0 ∧ s n / 4 = k
    · have := V.1 n (by omega) q.1
      rw [q.2] at this; exact this
    · rw [if_neg q] at z
      exact nrun_v V w sd la k n (by omega) (by omega)
theorem w_rateSets {s : Nat → Nat} {w la pr last seat rnd dr : Nat} {sd c : Bool} {hp tl : Nat → Bool} {u : zV} {m : zm} {K : zm → Prop} (X : Jx m s w sd la pr last seat rnd c) (V : Sv s) (gh : m.2 2 11 = lY hp) (g12 : m.1 2 12 = nI dr) (hd : dr < 500) (hz : c = false → ∀ y, y < 30 → zro y = true → hp y = false ∧ tl y = false) (H : Hb m u) (k : ∀ m', eqJ m m' → Hb m' (up_ u (vL (c, sd, seat, rnd, last) hp tl dr pr (lst (xs_ s w sd la) 4) (la4 s la))) → K m') : j_Judge_rateSets (lY tl) m K := by
  have X' := X
  obtain ⟨g8, ⟨gp, p34⟩, ⟨gw, w4⟩, gc, ⟨gl, l34⟩, ⟨ga, a4⟩, gd, ⟨gs, s34⟩, ⟨gr, r34⟩⟩ := X
  unfold j_Judge_rateSets
  refine w_kindsOfSets (b := true) g8 (fun i k => nrun (lst (xs_ s w sd la) i) k) (fun k => rfl) (fun i k hi => ?_) ?_
  · rw [nrun_s]
    congr 1
    by_cases q : s i % 4 = 0 ∧ s i / 4 = k
    · rw [if_pos q, if_pos ⟨⟨fun _ => rfl, fun _ => q.1⟩, q.2⟩]
    · rw [if_neg q, if_neg (fun z => q ⟨z.1.mpr rfl, z.2⟩)]
  refine w_kindsOfSets (b := false) g8 (fun i k => ntri (lst (xs_ s w sd la) i) k) (fun k => rfl) (fun i k hi => ?_) ?_
  · rw [ntri_s]
    congr 1
    by_cases q : ¬ s i % 4 = 0 ∧ s i / 4 = k
    · rw [if_pos q, if_pos ⟨⟨fun z => absurd z q.1, fun z => (by cases z)⟩, q.2⟩]
    · rw [if_neg q, if_neg (fun z => q ⟨fun y => (by have := z.1.mp y; cases this), z.2⟩)]
  refine w_yRuns X' V (w_yEnds X' (w_yTriplets X' V (w_ySorts X' (fun y13 hy13 => ?_))) (fun j => nrun_R s w sd la j 4) (nR_ex s (fun i hi => (g8 i hi).2) w sd la 4 (by omega)))
  have ef : y13 = lY (fun y => hp y || tl y || sb_ (c, sd, seat, rnd, last) pr (lst (xs_ s w sd la) 4) (la4 s la) y) := by
    rw [hy13, gh, lY_or, lY_or, lY_or, lY_or, lY_or]
    have e15 : bb (∃ r, r < 9 ∧ 0 < nrun (lst (xs_ s w sd la) 4) r ∧ 0 < nrun (lst (xs_ s w sd la) 4) (9 + r) ∧ 0 < nrun (lst (xs_ s w sd la) 4) (18 + r)) = bb (∃ r, r < 7 ∧ 0 < nrun (lst (xs_ s w sd la) 4) r ∧ 0 < nrun (lst (xs_ s w sd la) 4) (9 + r) ∧ 0 < nrun (lst (xs_ s w sd la) 4) (18 + r)) := bb_eq ⟨fun ⟨r, r1, r2, r3⟩ => ⟨r, by have := nrun_v V w sd la r 4 (by omega) r2; omega, r2, r3⟩, fun ⟨r, r1, r2⟩ => ⟨r, by omega, r2⟩⟩
    rw [e15]
    refine lY_c ?_
    refine ix42 ?_ ?_ ?_ ?_ ?_ ?_ ?_ ?_ ?_ ?_ ?_ ?_ ?_ ?_ ?_ ?_ ?_ ?_ ?_ ?_ ?_ ?_ ?_ ?_ ?_ ?_ ?_ ?_ ?_ ?_ ?_ ?_ ?_ ?_ ?_ ?_ ?_ ?_ ?_ ?_ ?_ ?_ <;> simp [one_, sb_, Bool.and_assoc]
  generalize hg : (fun y => hp y || tl y || sb_ (c, sd, seat, rnd, last) pr (lst (xs_ s w sd la) 4) (la4 s la) y) = g at ef
  have hz2 : c = false → ∀ y, y < 30 → g y = true → zro y = false := by
    intro hc y hy hgy
    cases q : zro y
    · rfl
    · exfalso
      obtain ⟨h1, h2⟩ := hz hc y hy q
      rw [← hg] at hgy
      simp only [h1, h2, Bool.false_or] at hgy
      unfold zro at q
      simp only [Bool.or_eq_true, beq_iff_eq] at q
      rcases q with ((((((q | q) | q) | q) | q) | q) | q) | q <;> subst q <;> simp [sb_, hc] at hgy
  have g8' : g 8 = (hp 8 || tl 8 || sb_ (c, sd, seat, rnd, last) pr (lst (xs_ s w sd la) 4) (la4 s la) 8) := by rw [← hg]
  rw [vL, hg, ← g8'] at k
  subst ef
  have fb := fu_b (E := (c, sd, seat, rnd, last)) (pr := pr) (x := xs_ s w sd la) (la := la4 s la)
  have l97 : ∀ fu, fu = (if g 8 = true ∧ bb (lim_ g) = false ∧ sd = true then 20 else fu_ (c, sd, seat, rnd, last) pr (lst (xs_ s w sd la) 4) (la4 s la)) → j_Judge_rateSets_L97 (lY tl) K (nI fu) (lY g) m := by
    intro fu hfu
    have f1 : fu < 300 ∧ 20 ≤ fu := by rw [hfu]; split <;> omega
    refine w_rate hd f1.1 f1.2 g12 gc hz2 H (fun m' e1 h1 => k m' e1 ?_)
    rw [hfu] at h1
    exact h1
  have l93 : ¬ (g 8 = true ∧ bb (lim_ g) = false ∧ sd = true) → j_Judge_rateSets_L93 (lY tl) K (lY g) m := by
    intro hq
    unfold j_Judge_rateSets_L93
    exact w_countFu X' (l97 _ (by rw [if_neg hq]))
  have e256 : (256 : Int64) = lY (fun j => j == 8) := by decide +kernel
  rw [e256, lY_an, pz_cmp0, pz_cmp0, lY_z, lY_30, lim_30]
  have h8 : (∀ k, k < 42 → (g k && k == 8) = false) ↔ g 8 = false := ⟨fun h => by have := h 8 (by omega); simpa using this, fun h k hk => by
    by_cases q : k = 8
    · subst q; rw [h]; rfl
    · simp [q]⟩
  rw [propext h8]
  have l71 : ∀ b, b = (g 8 && !bb (lim_ g)) → j_Judge_rateSets_L71 (lY tl) K (lY g) (bI b) m := by
    intro b hb
    unfold j_Judge_rateSets_L71
    rw [bI_0, gd, bI_0]
    refine ⟨fun q => l93 (fun z => ?_), fun q => ⟨fun q2 => l93 (fun z => ?_), fun q2 => l97 20 ?_⟩⟩
    · rw [z.1, z.2.1] at hb
      rw [hb] at q; cases q
    · rw [q2] at z; exact absurd z.2.2 (by decide)
    · have hb1 := ts_nf q
      rw [hb, Bool.and_eq_true, Bool.not_eq_true'] at hb1
      rw [if_pos ⟨hb1.1, hb1.2, ts_nf q2⟩]
  refine ⟨fun q => l71 false (by rw [q]; rfl), fun q => ⟨fun q2 => l71 false ?_, fun q2 => l71 true ?_⟩⟩
  · have : lim_ g := Classical.byContradiction q2
    rw [bb_t this, Bool.not_true, Bool.and_false]
  · rw [ts_nf q, bb_f q2]; rfl
