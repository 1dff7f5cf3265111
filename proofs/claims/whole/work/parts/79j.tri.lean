/-! ENDS, TRIPLETS, FU -/
def bcL (x : Int64) : Int32 := (fun y1 : Int64 => (fun y2 : Int64 => (fun y3 : Int64 => (fun y4 : Int64 => (fun y5 : Int64 => (fun y6 : Int64 => (Int64.toInt32 y6) &&& 127) (y5 + ((Int64.toUInt64 y5 >>> ((Int32.toInt64 32).toUInt64 &&& Int64.toUInt64 63)).toInt64))) (y4 + ((Int64.toUInt64 y4 >>> ((Int32.toInt64 16).toUInt64 &&& Int64.toUInt64 63)).toInt64))) (y3 + ((Int64.toUInt64 y3 >>> ((Int32.toInt64 8).toUInt64 &&& Int64.toUInt64 63)).toInt64))) ((y2 + ((Int64.toUInt64 y2 >>> ((Int32.toInt64 4).toUInt64 &&& Int64.toUInt64 63)).toInt64)) &&& 1085102592571150095)) ((y1 &&& 3689348814741910323) + (((Int64.toUInt64 y1 >>> ((Int32.toInt64 2).toUInt64 &&& Int64.toUInt64 63)).toInt64) &&& 3689348814741910323))) (x - (((Int64.toUInt64 x >>> ((Int32.toInt64 1).toUInt64 &&& Int64.toUInt64 63)).toInt64) &&& 6148914691236517205))
theorem w_bcL {x : Int64} {m : zm} {K : Int32 → zm → Prop} (k : K (bcL x) m) : j_JLong_bitCount x m K := by
  intro y1 h1 y2 h2 y3 h3 y4 h4 y5 h5 y6 h6
  rw [h6, h5, h4, h3, h2, h1]
  exact k
def n1 (b : Bool) : Nat := if b = true then 1 else 0
def g3 (a b c : Bool) : Nat → Bool := fun j => (a && j == 31) || (b && j == 32) || (c && j == 33)
def g4 (a b c d : Bool) : Nat → Bool := fun j => (a && j == 27) || (b && j == 28) || (c && j == 29) || (d && j == 30)
theorem bc_3 : ∀ a b c : Bool, bcL (lN (mk_ (g3 a b c) 42)) = nI (n1 a + n1 b + n1 c) := by decide +kernel
theorem bc_4 : ∀ a b c d : Bool, bcL (lN (mk_ (g4 a b c d) 42)) = nI (n1 a + n1 b + n1 c + n1 d) := by decide +kernel
theorem dr_k : (15032385536 : Int64) = lY (fun j => decide (31 ≤ j) && decide (j ≤ 33)) := by decide +kernel
theorem wi_k : (2013265920 : Int64) = lY (fun j => decide (27 ≤ j) && decide (j ≤ 30)) := by decide +kernel
theorem lY_an (f g : Nat → Bool) : lY f &&& lY g = lY (fun j => f j && g j) := by
  unfold lY
  rw [wb_and (Nat.lt_trans (mk_lt f 42) (by decide)) (Nat.lt_trans (mk_lt g 42) (by decide)), mk_an2 f g (Nat.le_refl 42)]
theorem msk3 {f : Nat → Bool} : lY f &&& 15032385536 = lN (mk_ (g3 (f 31) (f 32) (f 33)) 42) := by
  rw [dr_k, lY_an]
  refine congrArg lN (mk_c (fun j hj => ?_))
  unfold g3
  by_cases h1 : j = 31
  · subst h1; simp
  · by_cases h2 : j = 32
    · subst h2; simp
    · by_cases h3 : j = 33
      · subst h3; simp
      · have : (decide (31 ≤ j) && decide (j ≤ 33)) = false := by simp; omega
        rw [this]; simp [h1, h2, h3]
theorem msk4 {f : Nat → Bool} : lY f &&& 2013265920 = lN (mk_ (g4 (f 27) (f 28) (f 29) (f 30)) 42) := by
  rw [wi_k, lY_an]
  refine congrArg lN (mk_c (fun j hj => ?_))
  unfold g4
  by_cases h1 : j = 27
  · subst h1; simp
  · by_cases h2 : j = 28
    · subst h2; simp
    · by_cases h3 : j = 29
      · subst h3; simp
      · by_cases h4 : j = 30
        · subst h4; simp
        · have : (decide (27 ≤ j) && decide (j ≤ 30)) = false := by simp; omega
          rw [this]; simp [h1, h2, h3, h4]
theorem w_has {f : Nat → Bool} {k : Nat} {m : zm} {K : Int32 → zm → Prop} (hk : k < 42) (kk : K (bI (f k)) m) : j_Judge_has (lY f) (nI k) m K := by
  unfold j_Judge_has j_Judge_has_L15
  rw [lY_bit hk]
  refine ⟨fun h => ?_, fun h => ?_⟩
  · rw [h] at kk; exact ⟨Or.inl rfl, kk⟩
  · rw [ts_nf h] at kk; exact ⟨Or.inr rfl, kk⟩
theorem w_isOuter {k : Nat} {m : zm} {K : Int32 → zm → Prop} (hk : k < 34) (kk : K (bI (out_ k)) m) : j_Shape_isOuter (nI k) m K := by
  have e : (17113154305 : Int64) = lY (fun j => decide (j < 34) && out_ j) := by decide +kernel
  unfold j_Shape_isOuter j_Shape_isOuter_L17
  rw [e, lY_bit (by omega), decide_eq_true hk, Bool.true_and]
  refine ⟨fun h => ?_, fun h => ?_⟩
  · rw [h] at kk; exact ⟨Or.inl rfl, kk⟩
  · rw [ts_nf h] at kk; exact ⟨Or.inr rfl, kk⟩
/-! counts of the list -/
theorem nE_s (s : Nat → Nat) (w : Nat) (sd : Bool) (la n : Nat) : nE (lst (xs_ s w sd la) (n + 1)) = nE (lst (xs_ s w sd la) n) + (if out_ (s n / 4) = true ∨ (s n % 4 = 0 ∧ s n / 4 % 9 = 6) then 0 else 1) := by
  unfold nE
  rw [cP_s]
  congr 1
  have e : ((!(out_ (s n / 4) || (fm (s n) == 0 && s n / 4 % 9 == 6))) = true) = ¬ (out_ (s n / 4) = true ∨ (s n % 4 = 0 ∧ s n / 4 % 9 = 6)) := by
    rw [Bool.not_eq_true', ← Bool.not_eq_true, Bool.or_eq_true, Bool.and_eq_true, fm_0, beq_p]
  by_cases h : out_ (s n / 4) = true ∨ (s n % 4 = 0 ∧ s n / 4 % 9 = 6)
  · rw [if_pos h]; exact if_neg (fun z => (Eq.mp e z) h)
  · rw [if_neg h]; exact if_pos (Eq.mpr e h)
theorem nH_s (s : Nat → Nat) (w : Nat) (sd : Bool) (la n : Nat) : nH (lst (xs_ s w sd la) (n + 1)) = nH (lst (xs_ s w sd la) n) + (if 27 ≤ s n / 4 then 1 else 0) := by
  unfold nH
  rw [cP_s]
  congr 1
  by_cases h : 27 ≤ s n / 4
  · rw [if_pos h]; exact if_pos (decide_eq_true h)
  · rw [if_neg h]; exact if_neg (fun z => h (of_decide_eq_true z))
theorem nC_s (s : Nat → Nat) (w : Nat) (sd : Bool) (la n : Nat) : nC (lst (xs_ s w sd la) (n + 1)) = nC (lst (xs_ s w sd la) n) + (if ¬ s n % 4 = 0 ∧ (xs_ s w sd la n).2.2 = true then 1 else 0) := by
  unfold nC
  rw [cP_s]
  congr 1
  have e : ((!(fm (s n) == 0) && (xs_ s w sd la n).2.2) = true) = (¬ s n % 4 = 0 ∧ (xs_ s w sd la n).2.2 = true) := by
    rw [Bool.and_eq_true, Bool.not_eq_true', ← Bool.not_eq_true, fm_0]
  by_cases h : ¬ s n % 4 = 0 ∧ (xs_ s w sd la n).2.2 = true
  · rw [if_pos h]; exact if_pos (Eq.mpr e h)
  · rw [if_neg h]; exact if_neg (fun z => h (Eq.mp e z))
theorem nQ_s (s : Nat → Nat) (w : Nat) (sd : Bool) (la n : Nat) : nQ (lst (xs_ s w sd la) (n + 1)) = nQ (lst (xs_ s w sd la) n) + (if ¬ s n % 4 = 0 ∧ ¬ s n % 4 = 1 then 1 else 0) := by
  unfold nQ
  rw [cP_s]
  congr 1
  by_cases h : ¬ s n % 4 = 0 ∧ ¬ s n % 4 = 1
  · rw [if_pos h]; exact if_pos ((fm_2 (s n)).mpr h)
  · rw [if_neg h]; exact if_neg (fun z => h ((fm_2 (s n)).mp z))
theorem nD_s (s : Nat → Nat) (w : Nat) (sd : Bool) (la n : Nat) : nD (lst (xs_ s w sd la) (n + 1)) = nD (lst (xs_ s w sd la) n) + (if ¬ s n % 4 = 0 ∧ 31 ≤ s n / 4 then 1 else 0) := by
  unfold nD
  rw [cP_s]
  congr 1
  have e : ((!(fm (s n) == 0) && decide (31 ≤ s n / 4)) = true) = (¬ s n % 4 = 0 ∧ 31 ≤ s n / 4) := by
    rw [Bool.and_eq_true, Bool.not_eq_true', ← Bool.not_eq_true, fm_0, decide_eq_true_eq]
  by_cases h : ¬ s n % 4 = 0 ∧ 31 ≤ s n / 4
  · rw [if_pos h]; exact if_pos (Eq.mpr e h)
  · rw [if_neg h]; exact if_neg (fun z => h (Eq.mp e z))
theorem nW_s (s : Nat → Nat) (w : Nat) (sd : Bool) (la n : Nat) : nW (lst (xs_ s w sd la) (n + 1)) = nW (lst (xs_ s w sd la) n) + (if ¬ s n % 4 = 0 ∧ 27 ≤ s n / 4 ∧ s n / 4 ≤ 30 then 1 else 0) := by
  unfold nW
  rw [cP_s]
  congr 1
  have e : ((!(fm (s n) == 0) && decide (27 ≤ s n / 4) && decide (s n / 4 ≤ 30)) = true) = (¬ s n % 4 = 0 ∧ 27 ≤ s n / 4 ∧ s n / 4 ≤ 30) := by
    rw [Bool.and_eq_true, Bool.and_eq_true, Bool.not_eq_true', ← Bool.not_eq_true, fm_0, decide_eq_true_eq, decide_eq_true_eq]
    exact propext ⟨fun ⟨⟨a, b⟩, c⟩ => ⟨a, b, c⟩, fun ⟨a, b, c⟩ => ⟨⟨a, b⟩, c⟩⟩
  by_cases h : ¬ s n % 4 = 0 ∧ 27 ≤ s n / 4 ∧ s n / 4 ≤ 30
  · rw [if_pos h]; exact if_pos (Eq.mpr e h)
  · rw [if_neg h]; exact if_neg (fun z => h (Eq.mp e z))
theorem ntri_ex (s : Nat → Nat) (w : Nat) (sd : Bool) (la k : Nat) : ∀ n, 0 < ntri (lst (xs_ s w sd la) n) k → ∃ j, j < n ∧ ¬ s j % 4 = 0 ∧ s j / 4 = k
  | 0 => fun h => by
    have : ntri (lst (xs_ s w sd la) 0) k = 0 := rfl
    omega
  | n + 1 => fun h => by
    rw [ntri_s] at h
    by_cases q : ¬ s n % 4 = 0 ∧ s n / 4 = k
    · exact ⟨n, by omega, q⟩
    · rw [if_neg q] at h
      obtain ⟨j, j1, j2⟩ := ntri_ex s w sd la k n (by omega)
      exact ⟨j, by omega, j2⟩
theorem ntri_1 {s : Nat → Nat} (V : Sv s) (w : Nat) (sd : Bool) (la k : Nat) : ∀ n, n ≤ 4 → ntri (lst (xs_ s w sd la) n) k ≤ 1
  | 0 => fun _ => by
    have : ntri (lst (xs_ s w sd la) 0) k = 0 := rfl
    omega
  | n + 1 => fun hn => by
    have ih := ntri_1 V w sd la k n (by omega)
    rw [ntri_s]
    by_cases q : ¬ s n % 4 = 0 ∧ s n / 4 = k
    · rw [if_pos q]
      by_cases z : 0 < ntri (lst (xs_ s w sd la) n) k
      · obtain ⟨j, j1, j2, j3⟩ := ntri_ex s w sd la k n z
        have := V.2 j n (by omega) (by omega) j2 q.1 (by rw [j3, q.2])
        omega
      · omega
    · rw [if_neg q]; omega
theorem nD_t {s : Nat → Nat} (h : ∀ i, i < 4 → s i < 136) (w : Nat) (sd : Bool) (la : Nat) : ∀ n, n ≤ 4 → nD (lst (xs_ s w sd la) n) = ntri (lst (xs_ s w sd la) n) 31 + ntri (lst (xs_ s w sd la) n) 32 + ntri (lst (xs_ s w sd la) n) 33
  | 0 => fun _ => rfl
  | n + 1 => fun hn => by
    have ih := nD_t h w sd la n (by omega)
    have := h n (by omega)
    rw [nD_s, ntri_s, ntri_s, ntri_s, ih]
    by_cases q : ¬ s n % 4 = 0 ∧ 31 ≤ s n / 4
    · rw [if_pos q]
      rcases (show s n / 4 = 31 ∨ s n / 4 = 32 ∨ s n / 4 = 33 by omega) with e | e | e
      · rw [if_pos ⟨q.1, e⟩, if_neg (by omega), if_neg (by omega)]; omega
      · rw [if_neg (by omega), if_pos ⟨q.1, e⟩, if_neg (by omega)]; omega
      · rw [if_neg (by omega), if_neg (by omega), if_pos ⟨q.1, e⟩]; omega
    · rw [if_neg q, if_neg (by omega), if_neg (by omega), if_neg (by omega)]; omega
theorem nW_t {s : Nat → Nat} (w : Nat) (sd : Bool) (la : Nat) : ∀ n, n ≤ 4 → nW (lst (xs_ s w sd la) n) = ntri (lst (xs_ s w sd la) n) 27 + ntri (lst (xs_ s w sd la) n) 28 + ntri (lst (xs_ s w sd la) n) 29 + ntri (lst (xs_ s w sd la) n) 30
  | 0 => fun _ => rfl
  | n + 1 => fun hn => by
    have ih := nW_t w sd la n (s := s) (by omega)
    rw [nW_s, ntri_s, ntri_s, ntri_s, ntri_s, ih]
    by_cases q : ¬ s n % 4 = 0 ∧ 27 ≤ s n / 4 ∧ s n / 4 ≤ 30
    · rw [if_pos q]
      rcases (show s n / 4 = 27 ∨ s n / 4 = 28 ∨ s n / 4 = 29 ∨ s n / 4 = 30 by omega) with e | e | e | e
      · rw [if_pos ⟨q.1, e⟩, if_neg (by omega), if_neg (by omega), if_neg (by omega)]; omega
      · rw [if_neg (by omega), if_pos ⟨q.1, e⟩, if_neg (by omega), if_neg (by omega)]; omega
      · rw [if_neg (by omega), if_neg (by omega), if_pos ⟨q.1, e⟩, if_neg (by omega)]; omega
      · rw [if_neg (by omega), if_neg (by omega), if_neg (by omega), if_pos ⟨q.1, e⟩]; omega
    · rw [if_neg q, if_neg (by omega), if_neg (by omega), if_neg (by omega), if_neg (by omega)]; omega
theorem n1_d {a : Nat} (h : a ≤ 1) : n1 (decide (0 < a)) = a := by
  rcases (show a = 0 ∨ a = 1 by omega) with e | e <;> subst e <;> rfl
theorem w_yEnds {s : Nat → Nat} {w la pr last seat rnd : Nat} {sd c : Bool} {m : zm} {K : Int64 → zm → Prop} (X : Jx m s w sd la pr last seat rnd c) (k : K (lY (fun j => one_ (out_ pr && nE (lst (xs_ s w sd la) 4) == 0 && decide (0 < nR (lst (xs_ s w sd la) 4)) && (decide (27 ≤ pr) || decide (0 < nH (lst (xs_ s w sd la) 4)))) 17 j || one_ (out_ pr && nE (lst (xs_ s w sd la) 4) == 0 && decide (0 < nR (lst (xs_ s w sd la) 4)) && !(decide (27 ≤ pr) || decide (0 < nH (lst (xs_ s w sd la) 4)))) 18 j)) m) (hN : ∀ j, nrun (lst (xs_ s w sd la) 4) j ≤ nR (lst (xs_ s w sd la) 4)) (hR : 0 < nR (lst (xs_ s w sd la) 4) → ∃ j, j < 42 ∧ 0 < nrun (lst (xs_ s w sd la) 4) j) : j_Judge_yakuOfEnds (lY (fun j => decide (0 < nrun (lst (xs_ s w sd la) 4) j))) m K := by
  obtain ⟨g8, ⟨gp, p34⟩, ⟨gw, w4⟩, gc, ⟨gl, l34⟩, ⟨ga, a4⟩, gd, ⟨gs, s34⟩, ⟨gr, r34⟩⟩ := X
  have no : ¬ (out_ pr = true ∧ nE (lst (xs_ s w sd la) 4) = 0 ∧ 0 < nR (lst (xs_ s w sd la) 4)) → K 0 m := fun h => by
    have e : (out_ pr && nE (lst (xs_ s w sd la) 4) == 0 && decide (0 < nR (lst (xs_ s w sd la) 4))) = false := ts_nt (fun z => h (by
      rw [Bool.and_eq_true, Bool.and_eq_true, beq_p, decide_eq_true_eq] at z
      exact ⟨z.1.1, z.1.2, z.2⟩))
    rw [e] at k
    refine Eq.mp (congrArg (fun z => K z m) ?_) k
    rw [← lY_0]
    exact lY_c (fun j _ => by simp [one_])
  have l14 : ∀ b, b = decide (27 ≤ pr) → j_Judge_yakuOfEnds_L14 (lY (fun j => decide (0 < nrun (lst (xs_ s w sd la) 4) j))) K (bI b) m := by
    intro b hb
    unfold j_Judge_yakuOfEnds_L14 j_Judge_yakuOfEnds_L31
    rw [pz_cmp0, lY_z, gp]
    refine ⟨fun h => no (fun z => ?_), fun h => w_isOuter p34 ?_⟩
    · obtain ⟨j, j1, j2⟩ := hR z.2.2
      have := h j j1
      rw [decide_eq_true j2] at this
      cases this
    have hR0 : 0 < nR (lst (xs_ s w sd la) 4) := by
      refine Classical.byContradiction (fun z => h (fun j _ => decide_eq_false (fun y => ?_)))
      have := hN j
      omega
    rw [bI_0]
    refine ⟨fun ho => ?_, fun ho => no (fun z => by rw [ho] at z; exact absurd z.1 (by decide))⟩
    have ho := ts_nf ho
    have main : ∀ n i b', i + n = 4 → nE (lst (xs_ s w sd la) i) = 0 → b' = (decide (27 ≤ pr) || decide (0 < nH (lst (xs_ s w sd la) i))) → j_Judge_yakuOfEnds_L36 (lY (fun j => decide (0 < nrun (lst (xs_ s w sd la) 4) j))) K (n + 1) (bI b') (nI i) m := by
      intro n
      induction n with
      | zero =>
        intro i b' hi hE hb'
        have e : i = 4 := by omega
        subst e
        rw [j_Judge_yakuOfEnds_L36, show ((4 : Int32) ≤ nI 4) = True from propext ⟨fun _ => trivial, fun _ => by decide⟩, bI_0]
        have c17 : ((Int32.toInt64 17 &&& 63) : Int64) = ((nI 17).toInt64 &&& 63) := rfl
        have c18 : ((Int32.toInt64 18 &&& 63) : Int64) = ((nI 18).toInt64 &&& 63) := rfl
        rw [ho, hE, decide_eq_true hR0, ← hb'] at k
        unfold j_Judge_yakuOfEnds_L132
        refine ⟨fun _ => ⟨fun h => ?_, fun h => ?_⟩, fun z => absurd trivial z⟩
        · rw [c18, lY_1 (by omega)]
          rw [h] at k
          refine Eq.mp (congrArg (fun z => K z m) (lY_c (fun j _ => ?_))) k
          simp [one_]
        · rw [c17, lY_1 (by omega)]
          rw [ts_nf h] at k
          refine Eq.mp (congrArg (fun z => K z m) (lY_c (fun j _ => ?_))) k
          simp [one_]
      | succ n ih =>
        intro i b' hi hE hb'
        have hi4 : i < 4 := by omega
        obtain ⟨gi, si⟩ := g8 i hi4
        have grow : ∀ d j, j + d = 4 → nE (lst (xs_ s w sd la) j) ≤ nE (lst (xs_ s w sd la) 4) := by
          intro d
          induction d with
          | zero => intro j hj; rw [show j = 4 by omega]; exact Nat.le_refl _
          | succ d ihd =>
            intro j hj
            have := ihd (j + 1) (by omega)
            rw [nE_s] at this
            omega
        rw [j_Judge_yakuOfEnds_L36, show ((4 : Int32) ≤ nI i) = (4 ≤ i) from pz_le (a := 4) (by omega) (by omega), nI_clamp (by omega), gi, pz_rem4 (by omega), pz_div4 (by omega), pz_0 (by omega)]
        refine ⟨fun z => by omega, fun _ => ⟨pz_in hi4 (by omega), fun y3 hy3 => ?_⟩⟩
        subst hy3
        rw [pz_rem9 (by omega), show (nI (s i / 4 % 9) = 6) = (s i / 4 % 9 = 6) from pz_eq (b := 6) (by omega) (by omega)]
        have l80 : ∀ t, ((t = true) ↔ (s i % 4 = 0 ∧ s i / 4 % 9 = 6)) → j_Judge_yakuOfEnds_L80 (lY (fun j => decide (0 < nrun (lst (xs_ s w sd la) 4) j))) (j_Judge_yakuOfEnds_L36 (lY (fun j => decide (0 < nrun (lst (xs_ s w sd la) 4) j))) K (n + 1)) K (bI b') (nI i) (nI (s i / 4)) (bI t) m := by
          intro t ht
          unfold j_Judge_yakuOfEnds_L80
          refine w_isOuter (by omega) ?_
          have l97 : (out_ (s i / 4) = true ∨ (s i % 4 = 0 ∧ s i / 4 % 9 = 6)) → j_Judge_yakuOfEnds_L97 (lY (fun j => decide (0 < nrun (lst (xs_ s w sd la) 4) j))) (j_Judge_yakuOfEnds_L36 (lY (fun j => decide (0 < nrun (lst (xs_ s w sd la) 4) j))) K (n + 1)) K (bI b') (nI i) (nI (s i / 4)) m := by
            intro hq
            have nx : ∀ b'', b'' = (decide (27 ≤ pr) || decide (0 < nH (lst (xs_ s w sd la) (i + 1)))) → j_Judge_yakuOfEnds_L113 (lY (fun j => decide (0 < nrun (lst (xs_ s w sd la) 4) j))) (j_Judge_yakuOfEnds_L36 (lY (fun j => decide (0 < nrun (lst (xs_ s w sd la) 4) j))) K (n + 1)) K (nI i) (bI b'') m := by
              intro b'' hb'' y hy
              rw [hy, nI_1]
              exact ih (i + 1) b'' (by omega) (by rw [nE_s, if_pos hq, hE]) hb''
            unfold j_Judge_yakuOfEnds_L97 j_Judge_yakuOfEnds_L108
            rw [bI_0, show (nI (s i / 4) < (27 : Int32)) = (s i / 4 < 27) from pz_lt (b := 27) (by omega) (by omega)]
            rw [nH_s] at nx
            refine ⟨fun h => nx true ?_, fun h => ⟨fun h2 => nx false ?_, fun h2 => nx true ?_⟩⟩
            · have := ts_nf h
              rw [hb'] at this
              by_cases q : 0 < nH (lst (xs_ s w sd la) i)
              · rw [decide_eq_true (show 0 < nH (lst (xs_ s w sd la) i) + (if 27 ≤ s i / 4 then 1 else 0) by omega), Bool.or_true]
              · rw [decide_eq_false q, Bool.or_false] at this
                rw [this, Bool.true_or]
            · rw [if_neg (by omega), Nat.add_zero, ← hb', h]
            · rw [if_pos (by omega), decide_eq_true (show 0 < nH (lst (xs_ s w sd la) i) + 1 by omega), Bool.or_true]
          rw [bI_0, bI_0]
          refine ⟨fun h => l97 (Or.inl (ts_nf h)), fun h => ⟨fun h2 => l97 (Or.inr (ht.mp (ts_nf h2))), fun h2 => no (fun z => ?_)⟩⟩
          have g1 := grow (3 - i) (i + 1) (by omega)
          rw [nE_s, if_neg (fun y => by
            rcases y with y | y
            · rw [h] at y; cases y
            · rw [ht.mpr y] at h2; cases h2)] at g1
          omega
        refine ⟨pz_in hi4 (by omega), fun h => l80 false ⟨fun z => (by cases z), fun z => absurd z.1 h⟩, fun h => ⟨fun h2 => l80 false ⟨fun z => (by cases z), fun z => absurd z.2 h2⟩, fun h2 => l80 true ⟨fun _ => ⟨h, h2⟩, fun _ => rfl⟩⟩⟩
    refine ⟨5, main 4 0 b (by omega) rfl ?_⟩
    rw [hb]
    have : nH (lst (xs_ s w sd la) 0) = 0 := rfl
    rw [this]; simp
  unfold j_Judge_yakuOfEnds
  rw [gp, show (nI pr < (27 : Int32)) = (pr < 27) from pz_lt (b := 27) (by omega) (by omega)]
  exact ⟨fun h => l14 false (by rw [decide_eq_false (show ¬ 27 ≤ pr by omega)]), fun h => l14 true (by rw [decide_eq_true (show 27 ≤ pr by omega)])⟩
theorem w_yTriplets {s : Nat → Nat} {w la pr last seat rnd : Nat} {sd c : Bool} {m : zm} {K : Int64 → zm → Prop} (X : Jx m s w sd la pr last seat rnd c) (V : Sv s) (k : K (lY (fun j => (((((((((one_ (decide (0 < ntri (lst (xs_ s w sd la) 4) seat)) 10 j || one_ (decide (0 < ntri (lst (xs_ s w sd la) 4) rnd)) 11 j) || one_ (decide (0 < ntri (lst (xs_ s w sd la) 4) 31)) 12 j) || one_ (decide (0 < ntri (lst (xs_ s w sd la) 4) 32)) 13 j) || one_ (decide (0 < ntri (lst (xs_ s w sd la) 4) 33)) 14 j) || one_ (bb (∃ r, r < 9 ∧ 0 < ntri (lst (xs_ s w sd la) 4) r ∧ 0 < ntri (lst (xs_ s w sd la) 4) (9 + r) ∧ 0 < ntri (lst (xs_ s w sd la) 4) (18 + r))) 22 j) || one_ (nD (lst (xs_ s w sd la) 4) == 2 && decide (31 ≤ pr)) 23 j) || one_ (nD (lst (xs_ s w sd la) 4) == 3) 34 j) || one_ (nW (lst (xs_ s w sd la) 4) == 3 && (decide (27 ≤ pr) && decide (pr ≤ 30))) 35 j) || one_ (nW (lst (xs_ s w sd la) 4) == 4) 36 j))) m) : j_Judge_yakuOfTriplets (lY (fun j => decide (0 < ntri (lst (xs_ s w sd la) 4) j))) m K := by
  obtain ⟨g8, ⟨gp, p34⟩, ⟨gw, w4⟩, gc, ⟨gl, l34⟩, ⟨ga, a4⟩, gd, ⟨gs, s34⟩, ⟨gr, r34⟩⟩ := X
  have hD := nD_t (fun i hi => (g8 i hi).2) w sd la 4 (by omega)
  have hW := nW_t (s := s) w sd la 4 (by omega)
  have one := fun k => ntri_1 V w sd la k 4 (by omega)
  have d1 := one 31
  have d2 := one 32
  have d3 := one 33
  have w1 := one 27
  have w2 := one 28
  have w3 := one 29
  have w5 := one 30
  unfold j_Judge_yakuOfTriplets
  rw [gs]
  refine w_has (by omega) (w_bitIf (y := 10) (by omega) ?_)
  rw [gr]
  refine w_has (by omega) (w_bitIf (y := 11) (by omega) (fun y9 hy9 => ?_))
  rw [hy9, lY_or]
  have fin : ∀ F : Nat → Bool, K (lY (fun j => (((((F j || one_ (bb (∃ r, r < 9 ∧ 0 < ntri (lst (xs_ s w sd la) 4) r ∧ 0 < ntri (lst (xs_ s w sd la) 4) (9 + r) ∧ 0 < ntri (lst (xs_ s w sd la) 4) (18 + r))) 22 j) || one_ (nD (lst (xs_ s w sd la) 4) == 2 && decide (31 ≤ pr)) 23 j) || one_ (nD (lst (xs_ s w sd la) 4) == 3) 34 j) || one_ (nW (lst (xs_ s w sd la) 4) == 3 && (decide (27 ≤ pr) && decide (pr ≤ 30))) 35 j) || one_ (nW (lst (xs_ s w sd la) 4) == 4) 36 j))) m → j_JLong_bitCount (lY (fun j => decide (0 < ntri (lst (xs_ s w sd la) 4) j)) &&& 15032385536) m (fun r11 m10 => (j_JLong_bitCount (lY (fun j => decide (0 < ntri (lst (xs_ s w sd la) 4) j)) &&& 2013265920) m10 (fun r13 m12 => (j_Judge_inAllSuits (lY (fun j => decide (0 < ntri (lst (xs_ s w sd la) 4) j))) m12 (fun r15 m14 => (((lg_cmp r15 0) = 0 → (j_Judge_yakuOfTriplets_L98 (lY (fun j => decide (0 < ntri (lst (xs_ s w sd la) 4) j))) K r11 r13 0 (lY F) m14)) ∧ (¬ (lg_cmp r15 0) = 0 → (j_Judge_yakuOfTriplets_L98 (lY (fun j => decide (0 < ntri (lst (xs_ s w sd la) 4) j))) K r11 r13 1 (lY F) m14)))))))) := by
    intro F k
    refine w_bcL ?_
    rw [msk3, bc_3, n1_d d1, n1_d d2, n1_d d3, ← hD]
    refine w_bcL ?_
    rw [msk4, bc_4, n1_d w1, n1_d w2, n1_d w3, n1_d w5, ← hW]
    unfold j_Judge_inAllSuits
    dsimp only
    rw [inAll]
    have cD := cP_le (fun x => !(x.1 == 0) && decide (31 ≤ x.2.1)) (xs_ s w sd la) 4
    have cW := cP_le (fun x => !(x.1 == 0) && decide (27 ≤ x.2.1) && decide (x.2.1 ≤ 30)) (xs_ s w sd la) 4
    have bD : nD (lst (xs_ s w sd la) 4) ≤ 4 := cD
    have bW : nW (lst (xs_ s w sd la) 4) ≤ 4 := cW
    refine fl_p (X := fun x => j_Judge_yakuOfTriplets_L98 (lY (fun j => decide (0 < ntri (lst (xs_ s w sd la) 4) j))) K (nI (nD (lst (xs_ s w sd la) 4))) (nI (nW (lst (xs_ s w sd la) 4))) x (lY F) m) (bb (∃ r, r < 9 ∧ 0 < ntri (lst (xs_ s w sd la) 4) r ∧ 0 < ntri (lst (xs_ s w sd la) 4) (9 + r) ∧ 0 < ntri (lst (xs_ s w sd la) 4) (18 + r))) ?_ ?_
    · have e : (∃ r, r < 9 ∧ decide (0 < ntri (lst (xs_ s w sd la) 4) r) = true ∧ decide (0 < ntri (lst (xs_ s w sd la) 4) (9 + r)) = true ∧ decide (0 < ntri (lst (xs_ s w sd la) 4) (18 + r)) = true) = (∃ r, r < 9 ∧ 0 < ntri (lst (xs_ s w sd la) 4) r ∧ 0 < ntri (lst (xs_ s w sd la) 4) (9 + r) ∧ 0 < ntri (lst (xs_ s w sd la) 4) (18 + r)) := by simp only [decide_eq_true_eq]
      rw [e]
      exact propext ⟨fun h z => (by rw [bb_t z] at h; cases h), fun h => bb_f h⟩
    unfold j_Judge_yakuOfTriplets_L98
    refine w_bitIf (y := 22) (by omega) ?_
    rw [lY_or, show (nI (nD (lst (xs_ s w sd la) 4)) = 2) = (nD (lst (xs_ s w sd la) 4) = 2) from pz_eq (b := 2) (by omega) (by omega), gp]
    have l175 : ∀ e, e = (nW (lst (xs_ s w sd la) 4) == 3 && (decide (27 ≤ pr) && decide (pr ≤ 30))) → ∀ G, K (lY (fun j => (G j || one_ (nW (lst (xs_ s w sd la) 4) == 3 && (decide (27 ≤ pr) && decide (pr ≤ 30))) 35 j) || one_ (nW (lst (xs_ s w sd la) 4) == 4) 36 j)) m → j_Judge_yakuOfTriplets_L175 (lY (fun j => decide (0 < ntri (lst (xs_ s w sd la) 4) j))) K (nI (nW (lst (xs_ s w sd la) 4))) (bI e) (lY G) m := by
      intro e he G k
      unfold j_Judge_yakuOfTriplets_L175
      rw [he]
      refine w_bitIf (y := 35) (by omega) ?_
      rw [lY_or, show (nI (nW (lst (xs_ s w sd la) 4)) = 4) = (nW (lst (xs_ s w sd la) 4) = 4) from pz_eq (b := 4) (by omega) (by omega)]
      have l192 : ∀ e, e = (nW (lst (xs_ s w sd la) 4) == 4) → ∀ H, K (lY (fun j => H j || one_ (nW (lst (xs_ s w sd la) 4) == 4) 36 j)) m → j_Judge_yakuOfTriplets_L192 (lY (fun j => decide (0 < ntri (lst (xs_ s w sd la) 4) j))) K (bI e) (lY H) m := by
        intro e he H k
        unfold j_Judge_yakuOfTriplets_L192
        rw [he]
        refine w_bitIf (y := 36) (by omega) ?_
        rw [lY_or]; exact k
      exact ⟨fun h => l192 false (by simp [h]) _ k, fun h => l192 true (by simp [h]) _ k⟩
    have l128 : ∀ e, e = (nD (lst (xs_ s w sd la) 4) == 2 && decide (31 ≤ pr)) → j_Judge_yakuOfTriplets_L128 (lY (fun j => decide (0 < ntri (lst (xs_ s w sd la) 4) j))) K (nI (nD (lst (xs_ s w sd la) 4))) (nI (nW (lst (xs_ s w sd la) 4))) (bI e) (lY (fun j => F j || one_ (bb (∃ r, r < 9 ∧ 0 < ntri (lst (xs_ s w sd la) 4) r ∧ 0 < ntri (lst (xs_ s w sd la) 4) (9 + r) ∧ 0 < ntri (lst (xs_ s w sd la) 4) (18 + r))) 22 j)) m := by
      intro e he
      unfold j_Judge_yakuOfTriplets_L128
      rw [he]
      refine w_bitIf (y := 23) (by omega) ?_
      rw [lY_or, show (nI (nD (lst (xs_ s w sd la) 4)) = 3) = (nD (lst (xs_ s w sd la) 4) = 3) from pz_eq (b := 3) (by omega) (by omega)]
      have l145 : ∀ e, e = (nD (lst (xs_ s w sd la) 4) == 3) → ∀ G, K (lY (fun j => ((G j || one_ (nD (lst (xs_ s w sd la) 4) == 3) 34 j) || one_ (nW (lst (xs_ s w sd la) 4) == 3 && (decide (27 ≤ pr) && decide (pr ≤ 30))) 35 j) || one_ (nW (lst (xs_ s w sd la) 4) == 4) 36 j)) m → j_Judge_yakuOfTriplets_L145 (lY (fun j => decide (0 < ntri (lst (xs_ s w sd la) 4) j))) K (nI (nW (lst (xs_ s w sd la) 4))) (bI e) (lY G) m := by
        intro e he G k
        unfold j_Judge_yakuOfTriplets_L145
        rw [he]
        refine w_bitIf (y := 34) (by omega) ?_
        rw [lY_or, show (nI (nW (lst (xs_ s w sd la) 4)) = 3) = (nW (lst (xs_ s w sd la) 4) = 3) from pz_eq (b := 3) (by omega) (by omega), gp]
        refine ⟨fun h => l175 false (by simp [h]) _ k, fun h => ?_⟩
        rw [wi_k]
        refine w_has (by omega) ?_
        rw [bI_0]
        refine ⟨fun h2 => l175 false ?_ _ k, fun h2 => l175 true ?_ _ k⟩
        · rw [h2, Bool.and_false]
        · rw [ts_nf h2]; simp [h]
      exact ⟨fun h => l145 false (by simp [h]) _ k, fun h => l145 true (by simp [h]) _ k⟩
    refine ⟨fun h => l128 false (by simp [h]), fun h => ?_⟩
    rw [dr_k]
    refine w_has (by omega) ?_
    rw [bI_0, decide_eq_true (show pr ≤ 33 by omega), Bool.and_true]
    refine ⟨fun h2 => l128 false ?_, fun h2 => l128 true ?_⟩
    · rw [h2, Bool.and_false]
    · rw [ts_nf h2]; simp [h]
  have step : ∀ (n d : Nat) (F : Nat → Bool), d < 3 → j_Judge_yakuOfTriplets_L31 (lY (fun j => decide (0 < ntri (lst (xs_ s w sd la) 4) j))) K n (lY (fun j => F j || one_ (decide (0 < ntri (lst (xs_ s w sd la) 4) (31 + d))) (12 + d) j)) (nI (d + 1)) m → j_Judge_yakuOfTriplets_L31 (lY (fun j => decide (0 < ntri (lst (xs_ s w sd la) 4) j))) K (n + 1) (lY F) (nI d) m := by
    intro n d F hd k
    rw [j_Judge_yakuOfTriplets_L31, show ((3 : Int32) ≤ nI d) = (3 ≤ d) from pz_le (a := 3) (by omega) (by omega), show (31 : Int32) + nI d = nI (31 + d) from nI_add 31 d, show (12 : Int32) + nI d = nI (12 + d) from nI_add 12 d]
    refine ⟨fun z => by omega, fun _ => w_has (by omega) (w_bitIf (by omega) (fun y20 hy20 y21 hy21 => ?_))⟩
    rw [hy21, nI_1, hy20, lY_or]
    exact k
  refine ⟨4, ?_⟩
  refine step 3 0 _ (by omega) (step 2 1 _ (by omega) (step 1 2 _ (by omega) ?_))
  rw [j_Judge_yakuOfTriplets_L31, show ((3 : Int32) ≤ nI (2 + 1)) = True from propext ⟨fun _ => trivial, fun _ => by decide⟩]
  exact ⟨fun _ => fin _ k, fun z => absurd trivial z⟩
theorem w_setClosed {s : Nat → Nat} {w la pr last seat rnd i : Nat} {sd c : Bool} {m : zm} {K : Int32 → zm → Prop} (X : Jx m s w sd la pr last seat rnd c) (hi : i < 4) (k : K (bI (xs_ s w sd la i).2.2) m) : j_Judge_isSetClosed (nI i) m K := by
  obtain ⟨g8, ⟨gp, p34⟩, ⟨gw, w4⟩, gc, ⟨gl, l34⟩, ⟨ga, a4⟩, gd, ⟨gs, s34⟩, ⟨gr, r34⟩⟩ := X
  obtain ⟨gi, si⟩ := g8 i hi
  have k : K (bI (if i < w then s i % 4 == 3 else (sd || !(la == i)))) m := k
  unfold j_Judge_isSetClosed j_Judge_isSetClosed_L25 j_Judge_isSetClosed_L41 j_Judge_isSetClosed_L46
  rw [gw, gd, ga, pz_le (by omega) (by omega), bI_0, pz_eq (by omega) (by omega), nI_clamp (by omega), gi, pz_rem4 (by omega), show (nI (s i % 4) = 3) = (s i % 4 = 3) from pz_eq (b := 3) (by omega) (by omega)]
  refine ⟨fun h => ?_, fun h => ?_⟩
  · rw [if_neg (by omega)] at k
    refine ⟨fun h2 => ?_, fun h2 => ⟨fun h3 => ?_, fun h3 => ?_⟩⟩
    · rw [ts_nf h2] at k; exact ⟨Or.inr rfl, k⟩
    · rw [h2, h3] at k
      have e : (i == i) = true := by simp
      rw [e] at k
      exact ⟨Or.inl rfl, k⟩
    · have e : (la == i) = false := by simp [h3]
      rw [h2, e] at k
      exact ⟨Or.inr rfl, k⟩
  · rw [if_pos (by omega)] at k
    refine ⟨pz_in hi (by omega), fun h2 => ?_, fun h2 => ?_⟩
    · have e : (s i % 4 == 3) = false := by simp [h2]
      rw [e] at k; exact ⟨Or.inl rfl, k⟩
    · rw [h2] at k; exact ⟨Or.inr rfl, k⟩
theorem w_ySorts {s : Nat → Nat} {w la pr last seat rnd : Nat} {sd c : Bool} {m : zm} {K : Int64 → zm → Prop} (X : Jx m s w sd la pr last seat rnd c) (k : K (lY (fun j => ((((one_ (nR (lst (xs_ s w sd la) 4) == 0) 19 j || one_ (nC (lst (xs_ s w sd la) 4) == 3) 20 j) || one_ (nQ (lst (xs_ s w sd la) 4) == 3) 21 j) || one_ (nC (lst (xs_ s w sd la) 4) == 4) 32 j) || one_ (nQ (lst (xs_ s w sd la) 4) == 4) 33 j))) m) : j_Judge_yakuOfTripletSorts m K := by
  have X' := X
  obtain ⟨g8, ⟨gp, p34⟩, ⟨gw, w4⟩, gc, ⟨gl, l34⟩, ⟨ga, a4⟩, gd, ⟨gs, s34⟩, ⟨gr, r34⟩⟩ := X
  have cC : ∀ n, nC (lst (xs_ s w sd la) n) ≤ n := fun n => cP_le _ (xs_ s w sd la) n
  have cQ : ∀ n, nQ (lst (xs_ s w sd la) n) ≤ n := fun n => cP_le _ (xs_ s w sd la) n
  have cR : ∀ n, nR (lst (xs_ s w sd la) n) ≤ n := fun n => cP_le _ (xs_ s w sd la) n
  have cC4 := cC 4
  have cQ4 := cQ 4
  have cR4 := cR 4
  have fin : ∀ e, e = (nR (lst (xs_ s w sd la) 4) == 0) → j_Judge_yakuOfTripletSorts_L81 K (nI (nC (lst (xs_ s w sd la) 4))) (nI (nQ (lst (xs_ s w sd la) 4))) (bI e) m := by
    intro e he
    unfold j_Judge_yakuOfTripletSorts_L81
    rw [he]
    refine w_bitIf (y := 19) (by omega) ?_
    refine fl_n (X := fun x => j_Judge_yakuOfTripletSorts_L96 K (nI (nC (lst (xs_ s w sd la) 4))) (nI (nQ (lst (xs_ s w sd la) 4))) x (lY (one_ (nR (lst (xs_ s w sd la) 4) == 0) 19)) m) (nC (lst (xs_ s w sd la) 4) == 3) (beq_p.trans (pz_eq (b := 3) (by omega) (by omega)).symm) ?_
    unfold j_Judge_yakuOfTripletSorts_L96
    refine w_bitIf (y := 20) (by omega) ?_
    rw [lY_or]
    refine fl_n (X := fun x => j_Judge_yakuOfTripletSorts_L112 K (nI (nC (lst (xs_ s w sd la) 4))) (nI (nQ (lst (xs_ s w sd la) 4))) x (lY (fun j => one_ (nR (lst (xs_ s w sd la) 4) == 0) 19 j || one_ (nC (lst (xs_ s w sd la) 4) == 3) 20 j)) m) (nQ (lst (xs_ s w sd la) 4) == 3) (beq_p.trans (pz_eq (b := 3) (by omega) (by omega)).symm) ?_
    unfold j_Judge_yakuOfTripletSorts_L112
    refine w_bitIf (y := 21) (by omega) ?_
    rw [lY_or]
    refine fl_n (X := fun x => j_Judge_yakuOfTripletSorts_L128 K (nI (nQ (lst (xs_ s w sd la) 4))) x (lY (fun j => (one_ (nR (lst (xs_ s w sd la) 4) == 0) 19 j || one_ (nC (lst (xs_ s w sd la) 4) == 3) 20 j) || one_ (nQ (lst (xs_ s w sd la) 4) == 3) 21 j)) m) (nC (lst (xs_ s w sd la) 4) == 4) (beq_p.trans (pz_eq (b := 4) (by omega) (by omega)).symm) ?_
    unfold j_Judge_yakuOfTripletSorts_L128
    refine w_bitIf (y := 32) (by omega) ?_
    rw [lY_or]
    refine fl_n (X := fun x => j_Judge_yakuOfTripletSorts_L144 K x (lY (fun j => ((one_ (nR (lst (xs_ s w sd la) 4) == 0) 19 j || one_ (nC (lst (xs_ s w sd la) 4) == 3) 20 j) || one_ (nQ (lst (xs_ s w sd la) 4) == 3) 21 j) || one_ (nC (lst (xs_ s w sd la) 4) == 4) 32 j)) m) (nQ (lst (xs_ s w sd la) 4) == 4) (beq_p.trans (pz_eq (b := 4) (by omega) (by omega)).symm) ?_
    unfold j_Judge_yakuOfTripletSorts_L144
    refine w_bitIf (y := 33) (by omega) ?_
    rw [lY_or]
    exact k
  have main : ∀ n i, i + n = 4 → j_Judge_yakuOfTripletSorts_L9 K (n + 1) (nI (i - nR (lst (xs_ s w sd la) i))) (nI (nC (lst (xs_ s w sd la) i))) (nI (nQ (lst (xs_ s w sd la) i))) (nI i) m := by
    intro n
    induction n with
    | zero =>
      intro i hi
      have e : i = 4 := by omega
      subst e
      rw [j_Judge_yakuOfTripletSorts_L9, show ((4 : Int32) ≤ nI 4) = True from propext ⟨fun _ => trivial, fun _ => by decide⟩, show (nI (4 - nR (lst (xs_ s w sd la) 4)) = 4) = (4 - nR (lst (xs_ s w sd la) 4) = 4) from pz_eq (b := 4) (by omega) (by omega)]
      refine ⟨fun _ => ⟨fun h => fin false ?_, fun h => fin true ?_⟩, fun z => absurd trivial z⟩
      · have : ¬ nR (lst (xs_ s w sd la) 4) = 0 := by omega
        simp [this]
      · have : nR (lst (xs_ s w sd la) 4) = 0 := by omega
        simp [this]
    | succ n ih =>
      intro i hi
      have hi4 : i < 4 := by omega
      obtain ⟨gi, si⟩ := g8 i hi4
      have nx := ih (i + 1) (by omega)
      have cRi := cR i
      rw [j_Judge_yakuOfTripletSorts_L9, show ((4 : Int32) ≤ nI i) = (4 ≤ i) from pz_le (a := 4) (by omega) (by omega), nI_clamp (by omega), gi, pz_rem4 (by omega)]
      refine ⟨fun z => by omega, fun _ => ⟨pz_in hi4 (by omega), fun y1 hy1 => ?_⟩⟩
      subst hy1
      rw [pz_0 (by omega), nR_s, nC_s, nQ_s] at *
      refine ⟨fun h y hy => ?_, fun h y2 hy2 => w_setClosed X' hi4 ?_⟩
      · rw [hy, nI_1]
        rw [if_pos h, if_neg (fun z => z.1 h), if_neg (fun z => z.1 h), Nat.add_zero, Nat.add_zero, show i + 1 - (nR (lst (xs_ s w sd la) i) + 1) = i - nR (lst (xs_ s w sd la) i) by omega] at nx
        exact nx
      · rw [if_neg h, show i + 1 - (nR (lst (xs_ s w sd la) i) + 0) = i - nR (lst (xs_ s w sd la) i) + 1 by omega] at nx
        rw [nI_1] at hy2
        rw [hy2, bI_0]
        have l49 : ∀ t, t = (if ¬ s i % 4 = 0 ∧ (xs_ s w sd la i).2.2 = true then 1 else 0) → j_Judge_yakuOfTripletSorts_L49 (j_Judge_yakuOfTripletSorts_L9 K (n + 1)) K (nI (i - nR (lst (xs_ s w sd la) i) + 1)) (nI (nQ (lst (xs_ s w sd la) i))) (nI i) (nI (s i % 4)) (nI t) (nI (nC (lst (xs_ s w sd la) i))) m := by
          intro t ht
          unfold j_Judge_yakuOfTripletSorts_L49
          intro y5 hy5
          rw [nI_add, ht] at hy5
          rw [hy5, show (nI (s i % 4) = 1) = (s i % 4 = 1) from pz_eq (b := 1) (by omega) (by omega)]
          have l63 : ∀ t, t = (if ¬ s i % 4 = 0 ∧ ¬ s i % 4 = 1 then 1 else 0) → j_Judge_yakuOfTripletSorts_L63 (j_Judge_yakuOfTripletSorts_L9 K (n + 1)) K (nI (i - nR (lst (xs_ s w sd la) i) + 1)) (nI (nC (lst (xs_ s w sd la) i) + (if ¬ s i % 4 = 0 ∧ (xs_ s w sd la i).2.2 = true then 1 else 0))) (nI i) (nI t) (nI (nQ (lst (xs_ s w sd la) i))) m := by
            intro t ht y6 hy6 y hy
            rw [nI_add, ht] at hy6
            rw [hy, nI_1, hy6]
            exact nx
          exact ⟨fun q => l63 1 (by rw [if_pos ⟨h, q⟩]), fun q => l63 0 (by rw [if_neg (fun z => z.2 q)])⟩
        exact ⟨fun q => l49 0 (by rw [if_neg (fun z => by rw [q] at z; exact absurd z.2 (by decide))]), fun q => l49 1 (by rw [if_pos ⟨h, ts_nf q⟩])⟩
  exact ⟨5, main 4 0 (by omega)⟩
