/-! YAKU OF SETS, BY THE TABLE -/
def lst (x : Nat → Nat × Nat × Bool) : Nat → List (Nat × Nat × Bool)
  | 0 => []
  | n + 1 => lst x n ++ [x n]
theorem cP_s (P : Nat × Nat × Bool → Bool) (x : Nat → Nat × Nat × Bool) (n : Nat) : (lst x (n + 1)).countP P = (lst x n).countP P + (if P (x n) = true then 1 else 0) := by
  rw [lst, List.countP_append, List.countP_singleton]
theorem lst_len (x : Nat → Nat × Nat × Bool) : ∀ n, (lst x n).length = n
  | 0 => rfl
  | n + 1 => by rw [lst, List.length_append, lst_len x n]; rfl
theorem cP_le (P : Nat × Nat × Bool → Bool) (x : Nat → Nat × Nat × Bool) (n : Nat) : (lst x n).countP P ≤ n := by
  have := List.countP_le_length (p := P) (l := lst x n)
  rw [lst_len] at this
  exact this
def fm (v : Nat) : Nat := if v % 4 = 0 then 0 else if v % 4 = 1 then 1 else 2
theorem fm_0 (v : Nat) : ((fm v == 0) = true) = (v % 4 = 0) := by
  unfold fm
  by_cases h : v % 4 = 0
  · simp [h]
  · by_cases h2 : v % 4 = 1
    · simp [h2]
    · simp [h, h2]
theorem fm_2 (v : Nat) : ((fm v == 2) = true) = (¬ v % 4 = 0 ∧ ¬ v % 4 = 1) := by
  unfold fm
  by_cases h : v % 4 = 0
  · simp [h]
  · by_cases h2 : v % 4 = 1
    · simp [h2]
    · simp [h, h2]
def xs_ (s : Nat → Nat) (w : Nat) (sd : Bool) (la : Nat) : Nat → Nat × Nat × Bool := fun i => (fm (s i), s i / 4, if i < w then s i % 4 == 3 else (sd || !(la == i)))
/-- the judge's sets in memory -/
def Jx (m : zm) (s : Nat → Nat) (w : Nat) (sd : Bool) (la pr last seat rnd : Nat) (c : Bool) : Prop := (∀ i, i < 4 → m.1 8 i = nI (s i) ∧ s i < 136) ∧ (m.1 2 3 = nI pr ∧ pr < 34) ∧ (m.1 2 4 = nI w ∧ w ≤ 4) ∧ m.1 2 5 = bI c ∧ (m.1 2 6 = nI last ∧ last < 34) ∧ (m.1 2 7 = nI la ∧ la ≤ 4) ∧ m.1 2 8 = bI sd ∧ (m.1 2 9 = nI seat ∧ seat < 34) ∧ (m.1 2 10 = nI rnd ∧ rnd < 34)
/-- runs are runs, and no kind has two triplets -/
def Sv (s : Nat → Nat) : Prop := (∀ i, i < 4 → s i % 4 = 0 → s i / 4 < 27 ∧ s i / 4 % 9 ≤ 6) ∧ ∀ i j, i < 4 → j < 4 → ¬ s i % 4 = 0 → ¬ s j % 4 = 0 → s i / 4 = s j / 4 → i = j
theorem nrun_s (s : Nat → Nat) (w : Nat) (sd : Bool) (la n k : Nat) : nrun (lst (xs_ s w sd la) (n + 1)) k = nrun (lst (xs_ s w sd la) n) k + (if s n % 4 = 0 ∧ s n / 4 = k then 1 else 0) := by
  unfold nrun
  rw [cP_s]
  congr 1
  by_cases h : s n % 4 = 0 ∧ s n / 4 = k
  · rw [if_pos h, if_pos]
    rw [Bool.and_eq_true]
    exact ⟨(fm_0 (s n)).mpr h.1, by show (s n / 4 == k) = true; simp [h.2]⟩
  · rw [if_neg h, if_neg]
    rw [Bool.and_eq_true]
    rintro ⟨h1, h2⟩
    refine h ⟨(fm_0 (s n)).mp h1, ?_⟩
    have : (s n / 4 == k) = true := h2
    simpa using this
theorem ntri_s (s : Nat → Nat) (w : Nat) (sd : Bool) (la n k : Nat) : ntri (lst (xs_ s w sd la) (n + 1)) k = ntri (lst (xs_ s w sd la) n) k + (if ¬ s n % 4 = 0 ∧ s n / 4 = k then 1 else 0) := by
  unfold ntri
  rw [cP_s]
  congr 1
  by_cases h : ¬ s n % 4 = 0 ∧ s n / 4 = k
  · rw [if_pos h, if_pos]
    rw [Bool.and_eq_true, Bool.not_eq_true']
    refine ⟨ts_nt (fun z => h.1 ((fm_0 (s n)).mp z)), by show (s n / 4 == k) = true; simp [h.2]⟩
  · rw [if_neg h, if_neg]
    rw [Bool.and_eq_true, Bool.not_eq_true']
    rintro ⟨h1, h2⟩
    refine h ⟨fun z => ?_, ?_⟩
    · have := (fm_0 (s n)).mpr z
      have h1 : (fm (s n) == 0) = false := h1
      rw [h1] at this; cases this
    · have : (s n / 4 == k) = true := h2
      simpa using this
theorem w_kindsOfSets {s : Nat → Nat} {b : Bool} {m : zm} {K : Int64 → zm → Prop} (g8 : ∀ i, i < 4 → m.1 8 i = nI (s i) ∧ s i < 136) (N : Nat → Nat → Nat) (n0 : ∀ k, N 0 k = 0) (ns : ∀ i k, i < 4 → N (i + 1) k = N i k + (if ((s i % 4 = 0) ↔ b = true) ∧ s i / 4 = k then 1 else 0)) (k : K (lY (fun j => decide (0 < N 4 j))) m) : j_Judge_kindsOfSets (bI b) m K := by
  have main : ∀ n i, i + n = 4 → j_Judge_kindsOfSets_L5 (bI b) K (n + 1) (lY (fun j => decide (0 < N i j))) (nI i) m := by
    intro n
    induction n with
    | zero =>
      intro i hi
      have e : i = 4 := by omega
      subst e
      rw [j_Judge_kindsOfSets_L5, show ((4 : Int32) ≤ nI 4) = True from propext ⟨fun _ => trivial, fun _ => by decide⟩]
      exact ⟨fun _ => k, fun z => absurd trivial z⟩
    | succ n ih =>
      intro i hi
      have hi4 : i < 4 := by omega
      obtain ⟨gi, s136⟩ := g8 i hi4
      have l28 : ∀ r, ((r = true) = (s i % 4 = 0)) → j_Judge_kindsOfSets_L28 (bI b) (j_Judge_kindsOfSets_L5 (bI b) K (n + 1)) K (lY (fun j => decide (0 < N i j))) (nI i) (bI r) m := by
        intro r hr
        unfold j_Judge_kindsOfSets_L28
        rw [nI_clamp (by omega), gi, pz_div4 (by omega), lY_1 (by omega)]
        have nx := ih (i + 1) (by omega)
        refine ⟨fun h y hy => ?_, fun h => ⟨pz_in hi4 (by omega), fun y1 hy1 y hy => ?_⟩⟩
        · rw [hy, nI_1]
          refine Eq.mp (congrArg (fun z => j_Judge_kindsOfSets_L5 (bI b) K (n + 1) z (nI (i + 1)) m) (lY_c (fun j hj => ?_))) nx
          rw [ns i j hi4, if_neg, Nat.add_zero]
          rintro ⟨z, _⟩
          apply h
          rw [← hr] at z
          cases r <;> cases b <;> first | rfl | (exfalso; simp at z)
        · rw [hy, nI_1, hy1, lY_or]
          refine Eq.mp (congrArg (fun z => j_Judge_kindsOfSets_L5 (bI b) K (n + 1) z (nI (i + 1)) m) (lY_c (fun j hj => ?_))) nx
          have hb : (s i % 4 = 0) ↔ b = true := by
            rw [← hr]
            have : r = b := by cases r <;> cases b <;> first | rfl | (exact absurd h (by decide))
            rw [this]
          rw [ns i j hi4]
          by_cases q : s i / 4 = j
          · rw [if_pos ⟨hb, q⟩]
            subst q
            simp
          · rw [if_neg (fun z => q z.2), Nat.add_zero]
            have : (j == s i / 4) = false := by simp; omega
            rw [this, Bool.or_false]
      rw [j_Judge_kindsOfSets_L5, show ((4 : Int32) ≤ nI i) = (4 ≤ i) from pz_le (a := 4) (by omega) (by omega), nI_clamp (by omega), gi, pz_rem4 (by omega), pz_0 (by omega)]
      exact ⟨fun z => by omega, fun _ => ⟨pz_in hi4 (by omega), fun h => l28 false (propext ⟨fun z => (by cases z), fun z => absurd z h⟩), fun h => l28 true (propext ⟨fun _ => h, fun _ => rfl⟩)⟩⟩
  refine ⟨5, ?_⟩
  have := main 4 0 (by omega)
  rw [show lY (fun j => decide (0 < N 0 j)) = 0 from by rw [← lY_0]; exact lY_c (fun j _ => by rw [n0]; rfl)] at this
  exact this
theorem lY_sh {f : Nat → Bool} {d : Nat} (hd : d < 42) : lY f >>> ((nI d).toInt64 &&& 63) = lN (mk_ (fun j => f (j + d)) (42 - d)) := by
  unfold lY
  rw [pf_shr (pz_d63 d (by omega)) (lY_lt f), mk_dv]
theorem inAll {f : Nat → Bool} : (lg_cmp (((lY f &&& (lY f >>> (Int32.toInt64 9 &&& 63))) &&& (lY f >>> (Int32.toInt64 18 &&& 63))) &&& 511) 0 = 0) = ¬ ∃ r, r < 9 ∧ f r = true ∧ f (9 + r) = true ∧ f (18 + r) = true := by
  have e1 : (511 : Int64) = lN (mk_ (fun _ => true) 9) := by decide +kernel
  have c9 : ((Int32.toInt64 9 &&& 63) : Int64) = ((nI 9).toInt64 &&& 63) := rfl
  have c18 : ((Int32.toInt64 18 &&& 63) : Int64) = ((nI 18).toInt64 &&& 63) := rfl
  rw [pz_cmp0, e1, c9, c18, lY_sh (by omega), lY_sh (by omega), lY, wb_and (Nat.lt_trans (mk_lt _ 42) (by decide)) (Nat.lt_trans (mk_lt _ _) (by decide)), Nat.and_comm (mk_ f 42), mk_an2 _ _ (by omega), wb_and (Nat.lt_trans (mk_lt _ _) (by decide)) (Nat.lt_trans (mk_lt _ _) (by decide)), Nat.and_comm, mk_an2 _ _ (by omega), wb_and (Nat.lt_trans (mk_lt _ _) (by decide)) (Nat.lt_trans (mk_lt _ _) (by decide)), Nat.and_comm, mk_an2 _ _ (by omega), lN_0 (Nat.lt_trans (mk_lt _ 9) (by decide))]
  refine propext (mk_z.trans ⟨fun h ⟨r, h1, h2, h3, h4⟩ => ?_, fun h j hj => ?_⟩)
  · have := h r h1
    rw [Nat.add_comm r 18, Nat.add_comm r 9, h2, h3, h4] at this
    cases this
  · cases q : (true && (f (j + 18) && (f (j + 9) && f j)))
    · rfl
    · exfalso
      rw [Bool.true_and, Bool.and_eq_true, Bool.and_eq_true] at q
      exact h ⟨j, hj, q.2.2, by rw [Nat.add_comm]; exact q.2.1, by rw [Nat.add_comm]; exact q.1⟩
theorem str_1 {f : Nat → Bool} {n : Nat} (hn : 9 ≤ n) (hn2 : n ≤ 42) : (lg_cmp (lN (mk_ f n) &&& 73) 73 = 0) = (f 0 = true ∧ f 3 = true ∧ f 6 = true) := by
  have e1 : (73 : Int64) = lN (mk_ (fun j => j == 0 || j == 3 || j == 6) 9) := by decide +kernel
  have p1 : 2 ^ n ≤ 2 ^ 42 := Nat.pow_le_pow_right (by omega) hn2
  rw [pz_cmp0, e1, wb_and (Nat.lt_of_lt_of_le (mk_lt _ _) (by omega)) (Nat.lt_trans (mk_lt _ _) (by decide)), Nat.and_comm, mk_an2 _ _ hn]
  refine propext ⟨fun h => ?_, fun ⟨h0, h3, h6⟩ => ?_⟩
  · have := congrArg (fun z : Int64 => z.toBitVec.toNat) h
    simp only [wb_tn (Nat.lt_trans (mk_lt _ 9) (by decide))] at this
    have := mk_inj.mp this
    have a0 := this 0 (by omega)
    have a3 := this 3 (by omega)
    have a6 := this 6 (by omega)
    simp at a0 a3 a6
    exact ⟨a0, a3, a6⟩
  · refine congrArg lN (mk_c (fun j hj => ?_))
    rcases (show j = 0 ∨ j = 1 ∨ j = 2 ∨ j = 3 ∨ j = 4 ∨ j = 5 ∨ j = 6 ∨ j = 7 ∨ j = 8 by omega) with e | e | e | e | e | e | e | e | e <;> subst e <;> simp [h0, h3, h6]
theorem w_hasStraight {f : Nat → Bool} {m : zm} {K : Int32 → zm → Prop} (k : K (bI (bb (∃ s, s < 3 ∧ f (9 * s) = true ∧ f (9 * s + 3) = true ∧ f (9 * s + 6) = true))) m) : j_Judge_hasStraight (lY f) m K := by
  have c9 : ((Int32.toInt64 9 &&& 63) : Int64) = ((nI 9).toInt64 &&& 63) := rfl
  have c18 : ((Int32.toInt64 18 &&& 63) : Int64) = ((nI 18).toInt64 &&& 63) := rfl
  unfold j_Judge_hasStraight j_Judge_hasStraight_L42 j_Judge_hasStraight_L47
  rw [c9, c18, lY_sh (by omega), lY_sh (by omega), lY, str_1 (by omega) (by omega), str_1 (by omega) (by omega), str_1 (by omega) (by omega)]
  have yes : (∃ s, s < 3 ∧ f (9 * s) = true ∧ f (9 * s + 3) = true ∧ f (9 * s + 6) = true) → zm_isB 1 ∧ K 1 m := fun h => by
    rw [bb_t h] at k
    exact ⟨Or.inr rfl, k⟩
  refine ⟨fun h => yes ⟨0, by omega, h⟩, fun h1 => ⟨fun h => yes ⟨1, by omega, h⟩, fun h2 => ⟨fun h3 => ?_, fun h => yes ⟨2, by omega, h⟩⟩⟩⟩
  rw [bb_f (fun ⟨s, s1, s2⟩ => by
    rcases (show s = 0 ∨ s = 1 ∨ s = 2 by omega) with e | e | e <;> subst e
    · exact h1 s2
    · exact h2 s2
    · exact h3 s2)] at k
  exact ⟨Or.inl rfl, k⟩
theorem tw_up {L L' : List (Nat × Nat × Bool)} {k : Nat} (h : ∀ j, nrun L' j = nrun L j + (if j = k then 1 else 0)) : ∀ n, tw_ L' n = tw_ L n + (if k < n ∧ (nrun L k + 1) % 2 = 0 then 1 else 0)
  | 0 => by rw [if_neg (by omega)]; rfl
  | n + 1 => by
    rw [tw_, tw_, tw_up h n, h n]
    by_cases e : n = k
    · subst e
      rw [if_pos rfl, if_neg (by omega)]
      by_cases q : (nrun L n + 1) % 2 = 0
      · rw [if_pos ⟨by omega, q⟩]; omega
      · rw [if_neg (fun z => q z.2)]; omega
    · rw [if_neg e]
      by_cases q : k < n ∧ (nrun L k + 1) % 2 = 0
      · rw [if_pos q, if_pos ⟨by omega, q.2⟩]; omega
      · rw [if_neg q, if_neg (fun z => q ⟨by omega, z.2⟩)]; omega
theorem tw_same {L L' : List (Nat × Nat × Bool)} (h : ∀ j, nrun L' j = nrun L j) : ∀ n, tw_ L' n = tw_ L n
  | 0 => rfl
  | n + 1 => by rw [tw_, tw_, tw_same h n, h n]
theorem w_pairsOfRuns {s : Nat → Nat} {w la : Nat} {sd : Bool} {m : zm} {K : Int32 → zm → Prop} (g8 : ∀ i, i < 4 → m.1 8 i = nI (s i) ∧ s i < 136) (V : Sv s) (k : K (nI (tw_ (lst (xs_ s w sd la) 4) 25)) m) : j_Judge_countPairsOfRuns m K := by
  have tw1 : ∀ i, i < 4 → tw_ (lst (xs_ s w sd la) (i + 1)) 25 = tw_ (lst (xs_ s w sd la) i) 25 + (if s i % 4 = 0 ∧ nrun (lst (xs_ s w sd la) (i + 1)) (s i / 4) % 2 = 0 then 1 else 0) := by
    intro i hi
    by_cases q : s i % 4 = 0
    · have hv := V.1 i hi q
      have hh : ∀ j, nrun (lst (xs_ s w sd la) (i + 1)) j = nrun (lst (xs_ s w sd la) i) j + (if j = s i / 4 then 1 else 0) := fun j => by
        rw [nrun_s]
        by_cases e : j = s i / 4
        · rw [if_pos ⟨q, e.symm⟩, if_pos e]
        · rw [if_neg (fun z => e z.2.symm), if_neg e]
      rw [tw_up hh, hh, if_pos rfl]
      by_cases z : (nrun (lst (xs_ s w sd la) i) (s i / 4) + 1) % 2 = 0
      · rw [if_pos ⟨by omega, z⟩, if_pos ⟨q, z⟩]
      · rw [if_neg (fun y => z y.2), if_neg (fun y => z y.2)]
    · rw [if_neg (fun z => q z.1), tw_same (L := lst (xs_ s w sd la) i) (L' := lst (xs_ s w sd la) (i + 1)) (fun j => by rw [nrun_s, if_neg (fun z => q z.1), Nat.add_zero]), Nat.add_zero]
  have t4 : ∀ i, i ≤ 4 → tw_ (lst (xs_ s w sd la) i) 25 ≤ i := by
    intro i
    induction i with
    | zero =>
      intro _
      have : ∀ n, tw_ (lst (xs_ s w sd la) 0) n = 0 := fun n => by
        induction n with
        | zero => rfl
        | succ n ih =>
          have : nrun (lst (xs_ s w sd la) 0) n = 0 := rfl
          rw [tw_, ih, this]
      rw [this]; omega
    | succ i ih =>
      intro h
      have := ih (by omega)
      rw [tw1 i (by omega)]
      split <;> omega
  have main : ∀ n i, i + n = 4 → j_Judge_countPairsOfRuns_L4 K (n + 1) (nI (tw_ (lst (xs_ s w sd la) i) 25)) (nI i) m := by
    intro n
    induction n with
    | zero =>
      intro i hi
      have e : i = 4 := by omega
      subst e
      rw [j_Judge_countPairsOfRuns_L4, show ((4 : Int32) ≤ nI 4) = True from propext ⟨fun _ => trivial, fun _ => by decide⟩]
      exact ⟨fun _ => k, fun z => absurd trivial z⟩
    | succ n ih =>
      intro i hi
      have hi4 : i < 4 := by omega
      obtain ⟨gi, s136⟩ := g8 i hi4
      rw [j_Judge_countPairsOfRuns_L4, show ((4 : Int32) ≤ nI i) = (4 ≤ i) from pz_le (a := 4) (by omega) (by omega)]
      refine ⟨fun z => by omega, fun _ => ?_⟩
      -- how many of the first j are like the i-th
      have inner : ∀ (c : Nat → Nat), c 0 = 0 → (∀ j, j ≤ i → c (j + 1) = c j + (if s j = s i then 1 else 0)) → ∀ r j, j + r = i + 1 → j_Judge_countPairsOfRuns_L14 (j_Judge_countPairsOfRuns_L4 K (n + 1)) K (r + 1) (nI (tw_ (lst (xs_ s w sd la) i) 25)) (nI i) (nI (c j)) (nI j) m := by
        intro c c0 cs
        have cl : ∀ j, j ≤ i + 1 → c j ≤ j := by
          intro j
          induction j with
          | zero => intro _; rw [c0]; omega
          | succ j ihj =>
            intro hj
            have := ihj (by omega)
            rw [cs j (by omega)]
            split <;> omega
        have cn : s i % 4 = 0 → ∀ j, j ≤ i + 1 → c j = nrun (lst (xs_ s w sd la) j) (s i / 4) := by
          intro q j
          induction j with
          | zero => intro _; rw [c0]; rfl
          | succ j ihj =>
            intro hj
            rw [cs j (by omega), ihj (by omega), nrun_s]
            congr 1
            by_cases e : s j = s i
            · rw [if_pos e, if_pos ⟨by omega, by rw [e]⟩]
            · rw [if_neg e, if_neg (fun z => e (by omega))]
        intro r
        induction r with
        | zero =>
          intro j hj
          have ej : j = i + 1 := by omega
          subst ej
          have c5 := cl (i + 1) (by omega)
          rw [j_Judge_countPairsOfRuns_L14, pz_lt (by omega) (by omega), nI_clamp (by omega), gi, pz_rem4 (by omega), pz_0 (by omega), pz_rem2 (by omega), pz_0 (by omega)]
          have nx := ih (i + 1) (by omega)
          have t5 := t4 i (by omega)
          refine ⟨fun _ => ⟨pz_in hi4 (by omega), fun h y3 hy3 y4 hy4 => ?_, fun h => ⟨fun h2 y3 hy3 y4 hy4 => ?_, fun h2 y3 hy3 y4 hy4 => ?_⟩⟩, fun z => absurd (by omega) z⟩
          · rw [hy4, nI_1, hy3, show nI (tw_ (lst (xs_ s w sd la) i) 25) + 0 = nI (tw_ (lst (xs_ s w sd la) i) 25) from nI_add _ 0]
            rw [tw1 i hi4, if_neg (fun z => h z.1), Nat.add_zero] at nx
            exact nx
          · rw [hy4, nI_1, hy3, show nI (tw_ (lst (xs_ s w sd la) i) 25) + 0 = nI (tw_ (lst (xs_ s w sd la) i) 25) from nI_add _ 0]
            rw [tw1 i hi4, if_neg (fun z => h2 (by rw [cn h (i + 1) (by omega)]; exact z.2)), Nat.add_zero] at nx
            exact nx
          · rw [hy4, nI_1, hy3, nI_1]
            rw [tw1 i hi4, if_pos ⟨h, by rw [← cn h (i + 1) (by omega)]; exact h2⟩] at nx
            exact nx
        | succ r ihr =>
          intro j hj
          have hj4 : j < 4 := by omega
          obtain ⟨gj, sj⟩ := g8 j hj4
          rw [j_Judge_countPairsOfRuns_L14, pz_lt (by omega) (by omega), nI_clamp (by omega), nI_clamp (by omega), gi, gj, pz_eq (by omega) (by omega)]
          have nx := ihr (j + 1) (by omega)
          refine ⟨fun z => by omega, fun _ => ⟨pz_in hj4 (by omega), pz_in hi4 (by omega), fun h y1 hy1 y2 hy2 => ?_, fun h y1 hy1 y2 hy2 => ?_⟩⟩
          · rw [hy2, nI_1, hy1, show nI (c j) + 0 = nI (c j) from nI_add _ 0]
            rw [cs j (by omega), if_neg h, Nat.add_zero] at nx
            exact nx
          · rw [hy2, nI_1, hy1, nI_1]
            rw [cs j (by omega), if_pos h] at nx
            exact nx
      have := inner (fun j => csum (fun j => if s j = s i then 1 else 0) j) rfl (fun j _ => rfl) (i + 1) 0 (by omega)
      exact ⟨_, this⟩
  refine ⟨5, ?_⟩
  have := main 4 0 (by omega)
  rw [show tw_ (lst (xs_ s w sd la) 0) 25 = 0 from by have := t4 0 (by omega); omega] at this
  exact this
def la4 (s : Nat → Nat) (la : Nat) : Option (Nat × Nat) := if la < 4 then some (fm (s la), s la / 4) else none
theorem nR_s (s : Nat → Nat) (w : Nat) (sd : Bool) (la n : Nat) : nR (lst (xs_ s w sd la) (n + 1)) = nR (lst (xs_ s w sd la) n) + (if s n % 4 = 0 then 1 else 0) := by
  unfold nR
  rw [cP_s]
  congr 1
  by_cases h : s n % 4 = 0
  · rw [if_pos h]
    exact if_pos ((fm_0 (s n)).mpr h)
  · rw [if_neg h]
    exact if_neg (fun z => h ((fm_0 (s n)).mp z))
theorem w_isFlat {s : Nat → Nat} {w la pr last seat rnd : Nat} {sd c : Bool} {m : zm} {K : Int32 → zm → Prop} (X : Jx m s w sd la pr last seat rnd c) (k : K (bI (nR (lst (xs_ s w sd la) 4) == 4 && decide (pr < 31) && !(pr == seat) && !(pr == rnd) && two_ last (la4 s la))) m) : j_Judge_isFlat m K := by
  obtain ⟨g8, ⟨gp, p34⟩, ⟨gw, w4⟩, gc, ⟨gl, l34⟩, ⟨ga, a4⟩, gd, ⟨gs, s34⟩, ⟨gr, r34⟩⟩ := X
  have no : (nR (lst (xs_ s w sd la) 4) == 4 && decide (pr < 31) && !(pr == seat) && !(pr == rnd) && two_ last (la4 s la)) = false → K 0 m := fun h => by rw [h] at k; exact k
  have yes : (nR (lst (xs_ s w sd la) 4) == 4 && decide (pr < 31) && !(pr == seat) && !(pr == rnd) && two_ last (la4 s la)) = true → K 1 m := fun h => by rw [h] at k; exact k
  have main : ∀ n i, i + n = 4 → nR (lst (xs_ s w sd la) i) = i → j_Judge_isFlat_L2 K (n + 1) (nI i) m := by
    intro n
    induction n with
    | zero =>
      intro i hi hn
      have e : i = 4 := by omega
      subst e
      rw [j_Judge_isFlat_L2, show ((4 : Int32) ≤ nI 4) = True from propext ⟨fun _ => trivial, fun _ => by decide⟩, gp, gs, gr, ga, gl, show ((31 : Int32) ≤ nI pr) = (31 ≤ pr) from pz_le (a := 31) (by omega) (by omega), pz_eq (by omega) (by omega), pz_eq (by omega) (by omega), show (nI la < (4 : Int32)) = (la < 4) from pz_lt (b := 4) (by omega) (by omega)]
      unfold j_Judge_isFlat_L65
      refine ⟨fun _ => ⟨fun h => no ?_, fun h31 => ⟨fun h => no ?_, fun hs => ⟨fun h => no ?_, fun hr => ⟨fun h4 => ?_, fun h => no ?_⟩⟩⟩⟩, fun z => absurd trivial z⟩
      · rw [decide_eq_false (show ¬ pr < 31 by omega)]; simp
      · simp [h]
      · simp [h]
      · obtain ⟨gi, si⟩ := g8 la h4
        rw [nI_clamp (by omega), gi, pz_div4 (by omega)]
        refine ⟨pz_in h4 (by omega), fun y1 hy1 y2 hy2 => ?_⟩
        subst hy1
        rw [pz_rem9 (by omega), nI_1] at hy2
        subst hy2
        have e2 : two_ last (la4 s la) = ((last == s la / 4 && decide (s la / 4 % 9 < 6)) || (last == s la / 4 + 2 && decide (0 < s la / 4 % 9))) := by
          unfold la4
          rw [if_pos h4]
          rfl
        have rest : ∀ b, two_ last (la4 s la) = b → j_Judge_isFlat_L120 K (bI b) m := fun b hb => by
          refine ⟨isB_b b, ?_⟩
          rw [hn, hb, decide_eq_true (show pr < 31 by omega)] at k
          have q1 : (pr == seat) = false := by simp [hs]
          have q2 : (pr == rnd) = false := by simp [hr]
          rw [q1, q2] at k
          simpa using k
        have l100 : ¬ (last = s la / 4 ∧ s la / 4 % 9 < 6) → j_Judge_isFlat_L100 K (nI (s la / 4)) (nI (s la / 4 % 9 + 1)) m := by
          intro hq
          unfold j_Judge_isFlat_L100 j_Judge_isFlat_L115 j_Judge_isFlat_L119
          rw [gl, nI_2, pz_eq (by omega) (by omega), show (nI (s la / 4 % 9 + 1) ≤ (1 : Int32)) = (s la / 4 % 9 + 1 ≤ 1) from pz_le (b := 1) (by omega) (by omega)]
          have f1 : (last == s la / 4 && decide (s la / 4 % 9 < 6)) = false := ts_nt (fun z => hq (by simpa using z))
          refine ⟨fun h => rest false ?_, fun h => ⟨fun h2 => rest false ?_, fun h2 => rest true ?_⟩⟩
          · rw [e2, f1]; simp [h]
          · rw [e2, f1, decide_eq_false (show ¬ 0 < s la / 4 % 9 by omega)]; simp
          · rw [e2, decide_eq_true (show 0 < s la / 4 % 9 by omega)]; simp [h]
        rw [pz_eq (by omega) (by omega), show (nI (s la / 4 % 9 + 1) < (7 : Int32)) = (s la / 4 % 9 + 1 < 7) from pz_lt (b := 7) (by omega) (by omega)]
        refine ⟨fun h => l100 (fun z => h z.1), fun h => ⟨fun h2 => rest true ?_, fun h2 => l100 (fun z => by omega)⟩⟩
        rw [e2, decide_eq_true (show s la / 4 % 9 < 6 by omega)]; simp [h]
      · have : two_ last (la4 s la) = false := by unfold la4; rw [if_neg h]; rfl
        rw [this]; simp
    | succ n ih =>
      intro i hi hn
      have hi4 : i < 4 := by omega
      obtain ⟨gi, si⟩ := g8 i hi4
      rw [j_Judge_isFlat_L2, show ((4 : Int32) ≤ nI i) = (4 ≤ i) from pz_le (a := 4) (by omega) (by omega), nI_clamp (by omega), gi, pz_rem4 (by omega), pz_0 (by omega)]
      refine ⟨fun z => by omega, fun _ => ⟨pz_in hi4 (by omega), fun h y hy => ?_, fun h => no ?_⟩⟩
      · rw [hy, nI_1]
        exact ih (i + 1) (by omega) (by rw [nR_s, if_pos h, hn])
      · have le : ∀ d j, j + d = 4 → nR (lst (xs_ s w sd la) j) + d ≥ nR (lst (xs_ s w sd la) 4) := by
          intro d
          induction d with
          | zero => intro j hj; rw [show j = 4 by omega]; omega
          | succ d ihd =>
            intro j hj
            have := ihd (j + 1) (by omega)
            rw [nR_s] at this
            split at this <;> omega
        have := le (3 - i) (i + 1) (by omega)
        rw [nR_s, if_neg h, hn] at this
        have : ¬ nR (lst (xs_ s w sd la) 4) = 4 := by omega
        simp [this]
  exact ⟨5, main 4 0 (by omega) rfl⟩
theorem w_yRuns {s : Nat → Nat} {w la pr last seat rnd : Nat} {sd c : Bool} {m : zm} {K : Int64 → zm → Prop} (X : Jx m s w sd la pr last seat rnd c) (V : Sv s) (k : K (lY (fun j => (one_ (bb (∃ r, r < 9 ∧ 0 < nrun (lst (xs_ s w sd la) 4) r ∧ 0 < nrun (lst (xs_ s w sd la) 4) (9 + r) ∧ 0 < nrun (lst (xs_ s w sd la) 4) (18 + r))) 15 j || one_ (bb (∃ r, r < 3 ∧ 0 < nrun (lst (xs_ s w sd la) 4) (9 * r) ∧ 0 < nrun (lst (xs_ s w sd la) 4) (9 * r + 3) ∧ 0 < nrun (lst (xs_ s w sd la) 4) (9 * r + 6))) 16 j) || ((one_ (c && (nR (lst (xs_ s w sd la) 4) == 4 && decide (pr < 31) && !(pr == seat) && !(pr == rnd) && two_ last (la4 s la))) 8 j || one_ (c && tw_ (lst (xs_ s w sd la) 4) 25 == 1) 9 j) || one_ (c && tw_ (lst (xs_ s w sd la) 4) 25 == 2) 27 j))) m) : j_Judge_yakuOfRuns (lY (fun j => decide (0 < nrun (lst (xs_ s w sd la) 4) j))) m K := by
  have X' := X
  obtain ⟨g8, ⟨gp, p34⟩, ⟨gw, w4⟩, gc, ⟨gl, l34⟩, ⟨ga, a4⟩, gd, ⟨gs, s34⟩, ⟨gr, r34⟩⟩ := X
  have t25 : tw_ (lst (xs_ s w sd la) 4) 25 < 1000 := by
    have h : ∀ n, tw_ (lst (xs_ s w sd la) 4) n ≤ 2 * n := by
      intro n
      induction n with
      | zero => exact Nat.le_refl _
      | succ n ih =>
        have := cP_le (fun x => x.1 == 0 && x.2.1 == n) (xs_ s w sd la) 4
        rw [tw_]
        unfold nrun
        omega
    have := h 25
    omega
  unfold j_Judge_yakuOfRuns j_Judge_inAllSuits
  dsimp only
  rw [inAll]
  refine fl_p (X := fun x => j_Judge_yakuOfRuns_L14 (lY (fun j => decide (0 < nrun (lst (xs_ s w sd la) 4) j))) K x m) (bb (∃ r, r < 9 ∧ 0 < nrun (lst (xs_ s w sd la) 4) r ∧ 0 < nrun (lst (xs_ s w sd la) 4) (9 + r) ∧ 0 < nrun (lst (xs_ s w sd la) 4) (18 + r))) ?_ ?_
  · have e : (∃ r, r < 9 ∧ decide (0 < nrun (lst (xs_ s w sd la) 4) r) = true ∧ decide (0 < nrun (lst (xs_ s w sd la) 4) (9 + r)) = true ∧ decide (0 < nrun (lst (xs_ s w sd la) 4) (18 + r)) = true) = (∃ r, r < 9 ∧ 0 < nrun (lst (xs_ s w sd la) 4) r ∧ 0 < nrun (lst (xs_ s w sd la) 4) (9 + r) ∧ 0 < nrun (lst (xs_ s w sd la) 4) (18 + r)) := by simp only [decide_eq_true_eq]
    rw [e]
    exact propext ⟨fun h z => (by rw [bb_t z] at h; cases h), fun h => bb_f h⟩
  unfold j_Judge_yakuOfRuns_L14
  refine w_bitIf (y := 15) (by omega) ?_
  refine w_hasStraight ?_
  have e16 : (∃ r, r < 3 ∧ decide (0 < nrun (lst (xs_ s w sd la) 4) (9 * r)) = true ∧ decide (0 < nrun (lst (xs_ s w sd la) 4) (9 * r + 3)) = true ∧ decide (0 < nrun (lst (xs_ s w sd la) 4) (9 * r + 6)) = true) = (∃ r, r < 3 ∧ 0 < nrun (lst (xs_ s w sd la) 4) (9 * r) ∧ 0 < nrun (lst (xs_ s w sd la) 4) (9 * r + 3) ∧ 0 < nrun (lst (xs_ s w sd la) 4) (9 * r + 6)) := by simp only [decide_eq_true_eq]
  rw [e16]
  refine w_bitIf (y := 16) (by omega) (fun y9 hy9 => ?_)
  rw [hy9, lY_or, gc, bI_0]
  refine ⟨fun h => ?_, fun h => ?_⟩
  · subst h
    refine Eq.mp (congrArg (fun z => K z m) (lY_c (fun j hj => ?_))) k
    simp [one_]
  · have h := ts_nf h
    subst h
    refine w_pairsOfRuns (w := w) (la := la) (sd := sd) g8 V (w_isFlat X' (w_bitIf (y := 8) (by omega) ?_))
    rw [show (nI (tw_ (lst (xs_ s w sd la) 4) 25) = 1) = (tw_ (lst (xs_ s w sd la) 4) 25 = 1) from pz_eq (b := 1) (by omega) (by omega)]
    refine fl_n (X := fun x => j_Judge_yakuOfRuns_L64 (lY (fun j => decide (0 < nrun (lst (xs_ s w sd la) 4) j))) K (nI (tw_ (lst (xs_ s w sd la) 4) 25)) x (lY (one_ (nR (lst (xs_ s w sd la) 4) == 4 && decide (pr < 31) && !(pr == seat) && !(pr == rnd) && two_ last (la4 s la)) 8)) (lY (fun j => one_ (bb (∃ r, r < 9 ∧ 0 < nrun (lst (xs_ s w sd la) 4) r ∧ 0 < nrun (lst (xs_ s w sd la) 4) (9 + r) ∧ 0 < nrun (lst (xs_ s w sd la) 4) (18 + r))) 15 j || one_ (bb (∃ r, r < 3 ∧ 0 < nrun (lst (xs_ s w sd la) 4) (9 * r) ∧ 0 < nrun (lst (xs_ s w sd la) 4) (9 * r + 3) ∧ 0 < nrun (lst (xs_ s w sd la) 4) (9 * r + 6))) 16 j)) m) (tw_ (lst (xs_ s w sd la) 4) 25 == 1) beq_p ?_
    unfold j_Judge_yakuOfRuns_L64
    refine w_bitIf (y := 9) (by omega) ?_
    rw [lY_or, show (nI (tw_ (lst (xs_ s w sd la) 4) 25) = 2) = (tw_ (lst (xs_ s w sd la) 4) 25 = 2) from pz_eq (b := 2) (by omega) (by omega)]
    have l81 : ∀ e, e = (tw_ (lst (xs_ s w sd la) 4) 25 == 2) → ∀ F G, K (lY (fun j => F j || (G j || one_ (tw_ (lst (xs_ s w sd la) 4) 25 == 2) 27 j))) m → j_Judge_yakuOfRuns_L81 (lY (fun j => decide (0 < nrun (lst (xs_ s w sd la) 4) j))) K (bI e) (lY G) (lY F) m := by
      intro e he F G k
      unfold j_Judge_yakuOfRuns_L81
      rw [he]
      refine w_bitIf (y := 27) (by omega) (fun y20 hy20 => ?_)
      rw [lY_or, lY_or] at hy20
      rw [hy20]
      exact k
    exact ⟨fun h => l81 false (by simp [h]) _ _ k, fun h => l81 true (by simp [h]) _ _ k⟩
