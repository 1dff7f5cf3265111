/-! THE REFERENCE RATES A READING -/
theorem ix_1 : ∀ i, i < 6 → (131 : Int32) - 2 * nI i = nI (131 - 2 * i) ∧ (130 : Int32) - 2 * nI i = nI (130 - 2 * i) := by decide +kernel
theorem nx_1 : ∀ k, k < 27 → (nI k / 9) * 9 + ((nI k + 1) - (nI k + 1) / 9 * 9) = nI (nxt k) := by decide +kernel
theorem nx_2 : ∀ k, k < 31 → 27 ≤ k → 27 + ((nI k - 26) - (nI k - 26) / 4 * 4) = nI (nxt k) := by decide +kernel
theorem nx_3 : ∀ k, k < 34 → 31 ≤ k → 31 + ((nI k - 30) - (nI k - 30) / 3 * 3) = nI (nxt k) := by decide +kernel
theorem nxt_lt : ∀ k, k < 34 → nxt k < 34 := by decide +kernel
theorem w_doraOf {k : Nat} {m : zm} {K : Int32 → zm → Prop} (hk : k < 34) (kk : K (nI (nxt k)) m) : j_Model_doraOf (nI k) m K := by
  unfold j_Model_doraOf j_Model_doraOf_L50
  rw [show ((27 : Int32) ≤ nI k) = (27 ≤ k) from pz_le (a := 27) (by omega) (by omega), show ((31 : Int32) ≤ nI k) = (31 ≤ k) from pz_le (a := 31) (by omega) (by omega)]
  refine ⟨fun h => ⟨fun h2 => ?_, fun h2 => ?_⟩, fun h => ?_⟩
  · rw [nx_3 k hk h2]; exact kk
  · rw [nx_2 k (by omega) h]; exact kk
  · rw [nx_1 k (by omega)]; exact kk
def al4 (al : Nat → Nat) : Prop := ∀ k, al k ≤ 4
theorem dor_le {S : zS} {p : Nat} {al : Nat → Nat} (h : al4 al) : ∀ n, dor S p al n ≤ 8 * n
  | 0 => Nat.le_refl _
  | n + 1 => by
    have := dor_le (S := S) (p := p) h n
    have h1 := h (nxt (S.1 0 (131 - 2 * n)))
    have h2 := h (nxt (S.1 0 (130 - 2 * n)))
    rw [dor]
    split <;> omega
theorem w_doras {p : Nat} {al : Nat → Nat} {m m0 : zm} {S : zS} {K : Int32 → zm → Prop} (R : Rr m S m0) (B : Bd S) (hp : p < 4) (g32 : m.1 33 32 = nI p) (ga : ∀ k, k < 34 → m.1 51 k = nI (al k)) (k : K (nI (dor S p al (S.1 17 0 + 1))) m) : j_Model_doras m K := by
  have b17 := B.b17 0
  have b6 := B.b6 p
  have main : ∀ n i, i + n = S.1 17 0 + 1 → j_Model_doras_L4 K (n + 1) (nI (dor S p al i)) (nI i) m := by
    intro n
    induction n with
    | zero =>
      intro i hi
      rw [j_Model_doras_L4, R.g17, pz_lt (by omega) (by omega)]
      refine ⟨fun _ => ?_, fun z => absurd (by omega) z⟩
      rw [show i = S.1 17 0 + 1 by omega]
      exact k
    | succ n ih =>
      intro i hi
      have b0 := B.b0 (131 - 2 * i)
      have b0' := B.b0 (130 - 2 * i)
      have n1 := nxt_lt (S.1 0 (131 - 2 * i)) (by omega)
      have n2 := nxt_lt (S.1 0 (130 - 2 * i)) (by omega)
      rw [j_Model_doras_L4, R.g17, pz_lt (by omega) (by omega), (ix_1 i (by omega)).1, (ix_1 i (by omega)).2, nI_clamp (by omega), R.g0 (by omega)]
      refine ⟨fun z => by omega, fun _ => ⟨pz_in (by omega) (by omega), w_doraOf (by omega) ⟨pz_in (by omega) (by omega), fun y3 hy3 => ?_⟩⟩⟩
      rw [nI_clamp (by omega), ga _ n1, nI_add] at hy3
      rw [g32, nI_clamp (by omega), R.g6 hp, show (nI (S.1 6 p) ≤ (0 : Int32)) = (S.1 6 p ≤ 0) from pz_le (b := 0) (by omega) (by omega), nI_clamp (by omega), R.g0 (by omega)]
      refine ⟨pz_in hp (by omega), fun h => ?_, fun h => ⟨pz_in (by omega) (by omega), w_doraOf (by omega) ⟨pz_in (by omega) (by omega), ?_⟩⟩⟩
      · intro y6 hy6 y7 hy7
        rw [hy7, nI_1, hy6, hy3]
        have := ih (i + 1) (by omega)
        rw [dor, if_pos (by omega), Nat.add_zero] at this
        rw [show nI (dor S p al i + al (nxt (S.1 0 (131 - 2 * i)))) + 0 = nI (dor S p al i + al (nxt (S.1 0 (131 - 2 * i))) + 0) from nI_add _ 0, Nat.add_zero]
        exact this
      · rw [nI_clamp (by omega), ga _ n2]
        intro y6 hy6 y7 hy7
        rw [hy7, nI_1, hy6, hy3, nI_add]
        have := ih (i + 1) (by omega)
        rw [dor, if_neg (by omega)] at this
        exact this
  exact ⟨_, main (S.1 17 0 + 1) 0 (by omega)⟩
theorem w_han {y : Nat} {c : Bool} {m : zm} {K : Int32 → zm → Prop} (hy : y < 30) (k : K (nI (hn_ y c)) m) : j_Model_han (nI y) (bI c) m K := by
  have e : ∀ x : Nat, x < 100 → ((nI y = nI x) = (y = x)) := fun x hx => pz_eq (by omega) (by omega)
  unfold j_Model_han j_Model_han_L12 j_Model_han_L22 j_Model_han_L38 j_Model_han_L51 j_Model_han_L60 j_Model_han_L77 j_Model_han_L89
  rw [show (nI y < (15 : Int32)) = (y < 15) from pz_lt (b := 15) (by omega) (by omega), show ((17 : Int32) < nI y) = (17 < y) from pz_lt (a := 17) (by omega) (by omega), show (nI y = 1) = (y = 1) from e 1 (by omega), show (nI y = 24) = (y = 24) from e 24 (by omega), show (nI y = 18) = (y = 18) from e 18 (by omega), show (nI y = 28) = (y = 28) from e 28 (by omega), show (nI y = 29) = (y = 29) from e 29 (by omega), show (nI y = 27) = (y = 27) from e 27 (by omega), bI_0]
  unfold hn_ at k
  have fin : ∀ {x z : Nat}, x = z → K (nI x) m → K (nI z) m := fun h q => by rw [← h]; exact q
  refine ⟨fun h => ⟨fun h1 => ?_, fun h1 => ?_⟩, fun h => ⟨fun h24 => ⟨fun h17 => ⟨fun h18 => ⟨fun hc => ?_, fun hc => ?_⟩, fun h18 => ⟨fun h28 => ⟨fun h29 => ⟨fun h27 => ?_, fun h27 => ?_⟩, fun h29 => ⟨fun hc => ?_, fun hc => ?_⟩⟩, fun h28 => ⟨fun hc => ?_, fun hc => ?_⟩⟩⟩, fun h17 => ⟨fun hc => ?_, fun hc => ?_⟩⟩, fun h24 => ⟨fun h1 => ?_, fun h1 => ?_⟩⟩⟩
  · rw [if_pos (Or.inl h), if_neg h1] at k; exact k
  · rw [if_pos (Or.inl h), if_pos h1] at k; exact k
  · rw [if_neg (by omega), if_neg (by omega), if_pos (Or.inl h18), if_neg (by rw [hc]; decide)] at k; exact k
  · rw [if_neg (by omega), if_neg (by omega), if_pos (Or.inl h18), if_pos (ts_nf hc)] at k; exact k
  · rw [if_neg (by omega), if_neg (by omega), if_neg (by omega), if_neg h29, if_neg h27] at k; exact k
  · rw [if_neg (by omega), if_neg (by omega), if_neg (by omega), if_neg h29, if_pos h27] at k; exact k
  · rw [if_neg (by omega), if_neg (by omega), if_neg (by omega), if_pos h29, if_neg (by rw [hc]; decide)] at k; exact k
  · rw [if_neg (by omega), if_neg (by omega), if_neg (by omega), if_pos h29, if_pos (ts_nf hc)] at k; exact k
  · rw [if_neg (by omega), if_neg (by omega), if_pos (Or.inr h28), if_neg (by rw [hc]; decide)] at k; exact k
  · rw [if_neg (by omega), if_neg (by omega), if_pos (Or.inr h28), if_pos (ts_nf hc)] at k; exact k
  · rw [if_neg (by omega), if_pos (by omega), if_neg (by rw [hc]; decide)] at k; exact k
  · rw [if_neg (by omega), if_pos (by omega), if_pos (ts_nf hc)] at k; exact k
  · rw [if_pos (Or.inr h24), if_neg h1] at k; exact k
  · rw [if_pos (Or.inr h24), if_pos h1] at k; exact k
/-- what the reference has found so far -/
def Hq (m : zm) (u : zV) : Prop := vz u ∧ m.1 33 46 = nI u.2.1 ∧ m.1 33 47 = nI u.2.2.1 ∧ m.1 33 48 = nI u.1 ∧ m.2 33 49 = lN u.2.2.2
def eqK (m m' : zm) : Prop := ∀ q j, ¬ (q = 33 ∧ 46 ≤ j) → m'.1 q j = m.1 q j ∧ m'.2 q j = m.2 q j
theorem eqK.rf {m : zm} : eqK m m := fun _ _ _ => ⟨rfl, rfl⟩
theorem eqK.tr {m m1 m2 : zm} (h1 : eqK m m1) (h2 : eqK m1 m2) : eqK m m2 := fun q j h => ⟨(h2 q j h).1.trans (h1 q j h).1, (h2 q j h).2.trans (h1 q j h).2⟩
theorem eqK.F {m m' : zm} (h : eqK m m') : eqF m m' := fun q j hn => h q j (fun z => hn (Or.inr ⟨z.1, by omega⟩))
theorem w_judge {f : Nat → Bool} {c : Bool} {p dr fu : Nat} {al : Nat → Nat} {u : zV} {m m0 : zm} {S : zS} {K : zm → Prop} (R : Rr m S m0) (B : Bd S) (M : Mk S) (hp : p < 4) (g32 : m.1 33 32 = nI p) (ga : ∀ k, k < 34 → m.1 51 k = nI (al k)) (hc : c = bb (cls S p)) (hdr : dr = dor S p al (S.1 17 0 + 1)) (hd : dr < 500) (hf : fu < 300) (H : Hq m u) (k : ∀ m', eqK m m' → Hq m' (up_ u (vy f c dr fu)) → K m') : j_Model_judge (lY f) (nI fu) m K := by
  have hs := hs_le f c 30
  obtain ⟨hu, q0, q1, q2, q4⟩ := H
  have fin : ∀ (a1 : Int64) v t x, v = vy f c dr fu → ¬ v.2.2.2 = 0 → v.2.1 = t → bs_ t fu = v.1 → v.2.2.1 = fu → x = lN v.2.2.2 → j_Model_judge_L102 a1 (nI fu) K x (nI t) m := by
    intro a1 v t x hv hy ht hb hfu hx
    have vv : vz v := by rw [hv]; exact vy_vz hd hf
    have t1 : t < 1000 := by rw [← ht]; exact vv.2.1
    unfold j_Model_judge_L102
    refine w_baseOfR t1 hf ?_
    have no : vle v u → ∀ r, j_Model_judge_L201 a1 (nI fu) K x (nI t) r 0 m := by
      intro q r
      refine ⟨fun _ => k m eqK.rf ?_, fun z => absurd rfl z⟩
      rw [← hv, up_, if_pos (bb_t (Or.inr q))]
      exact ⟨hu, q0, q1, q2, q4⟩
    have yes : ¬ vle v u → j_Model_judge_L201 a1 (nI fu) K x (nI t) (nI (bs_ t fu)) 1 m := by
      intro q
      refine ⟨fun z => absurd z (by decide), fun _ m1 h1 m2 h2 m3 h3 m4 h4 => k m4 (fun q j hq => ?_) ⟨?_, ?_⟩⟩
      · rw [h4, pz_rL, pz_rL2, if_neg (by omega), h3, pz_rI, pz_rI2, if_neg (by omega), h2, pz_rI, pz_rI2, if_neg (by omega), h1, pz_rI, pz_rI2, if_neg (by omega)]
        exact ⟨rfl, rfl⟩
      · rw [← hv]; exact up_vz hu vv
      · rw [← hv, up_, if_neg (fun z => by rcases bb_iff.mp z with z | z; exact hy z; exact q z)]
        refine ⟨?_, ?_, ?_, ?_⟩
        · rw [h4, pz_rL2, h3, pz_rI, if_neg (by omega), h2, pz_rI, if_pos ⟨rfl, rfl⟩, ht]
        · rw [h4, pz_rL2, h3, pz_rI, if_pos ⟨rfl, rfl⟩, hfu]
        · rw [h4, pz_rL2, h3, pz_rI, if_neg (by omega), h2, pz_rI, if_neg (by omega), h1, pz_rI, if_pos ⟨rfl, rfl⟩, hb]
        · rw [h4, pz_rL, if_pos ⟨rfl, rfl⟩, hx]
    obtain ⟨u1, u2, u3, u4⟩ := hu
    obtain ⟨v1, v2, v3, v4⟩ := vv
    have hbb := bs_le t fu
    rw [q0, q1, q2, q4, hx, pz_eq (by omega) (by omega), pz_eq (by omega) (by omega), pz_eq (by omega) (by omega), pz_le (by omega) (by omega), pz_le (by omega) (by omega), pz_le (by omega) (by omega), pz_cmple (by omega) (by omega)]
    rw [hx] at no yes
    unfold vle at no yes
    refine ⟨fun e1 => ⟨fun e2 => ⟨fun e3 => ⟨fun h => no (by omega) _, fun h => yes (by omega)⟩, fun e3 => ⟨fun h => no (by omega) _, fun h => yes (by omega)⟩⟩, fun e2 => ⟨fun h => no (by omega) _, fun h => yes (by omega)⟩⟩, fun e1 => ⟨fun h => no (by omega) _, fun h => yes (by omega)⟩⟩
  have main : ¬ lim_ f → ¬ mk_ f 42 = 0 → ∀ n i, i + n = 30 → j_Model_judge_L50 (lY f) (nI fu) K (n + 1) (lY f) 0 (nI (dr + hs_ f c i)) (nI i) m := by
    intro hl hy n
    induction n with
    | zero =>
      intro i hi
      have e : i = 30 := by omega
      subst e
      rw [j_Model_judge_L50, show ((30 : Int32) ≤ nI 30) = True from propext ⟨fun _ => trivial, fun _ => by decide⟩]
      refine ⟨fun _ => fin (lY f) _ _ _ rfl ?_ ?_ ?_ ?_ ?_, fun z => absurd trivial z⟩
      · rw [lg_d hl]; exact hy
      · rw [lg_d hl]
      · rw [lg_d hl]
      · rw [lg_d hl]
      · rw [lg_d hl]; rfl
    | succ n ih =>
      intro i hi
      rw [j_Model_judge_L50, show ((30 : Int32) ≤ nI i) = (30 ≤ i) from pz_le (a := 30) (by omega) (by omega), lY_bit1 (by omega), g32]
      have l93 : ∀ v, dr + hs_ f c i + v = dr + hs_ f c (i + 1) → j_Model_judge_L93 (lY f) (nI fu) (j_Model_judge_L50 (lY f) (nI fu) K (n + 1)) K (lY f) 0 (nI i) (nI v) (nI (dr + hs_ f c i)) m := by
        intro v hv y9 hy9 y10 hy10
        rw [hy10, nI_1, hy9, nI_add, hv]
        exact ih (i + 1) (by omega)
      refine ⟨fun z => by omega, fun _ => ⟨fun z => absurd rfl z, fun _ => ⟨fun h => l93 0 ?_, fun h => ?_⟩⟩⟩
      · rw [hs_, if_neg h, Nat.add_zero]; rfl
      · have ch : ∀ x, x = bI c → j_Model_han (nI i) x m (fun r8 m7 => (j_Model_judge_L93 (lY f) (nI fu) (j_Model_judge_L50 (lY f) (nI fu) K (n + 1)) K (lY f) 0 (nI i) r8 (nI (dr + hs_ f c i)) m7)) := by
          intro x hx
          rw [hx]
          refine w_han (by omega) (l93 _ ?_)
          rw [hs_, if_pos h, Nat.add_assoc]
        exact w_closedR R B M hp (fun z => ch 1 (by rw [hc, bb_t z]; rfl)) (fun z => ch 0 (by rw [hc, bb_f z]; rfl))
  unfold j_Model_judge j_Model_counted j_Model_counted_L20
  rw [lY_3030, lY_30, pz_cmp0, lim_30]
  by_cases hl : lim_ f
  · refine ⟨fun z => absurd hl z, fun _ => ?_⟩
    have lk : lim_ (lmt f) := by
      obtain ⟨y, y1, y2, y3⟩ := hl
      exact ⟨y, y1, y2, by unfold lmt; rw [y3, decide_eq_true y1]; rfl⟩
    have nz : ¬ mk_ (lmt f) 42 = 0 := fun z => by
      obtain ⟨y, y1, y2, y3⟩ := lk
      have := mk_z.mp z y y2
      rw [y3] at this; cases this
    dsimp only
    rw [pz_cmp0, lY_30, pz_cmp0, lim_30, lY_z]
    refine ⟨fun _ => ⟨fun z => absurd lk z, fun _ => ⟨fun z => absurd z (by decide), fun _ => ⟨1, ?_⟩⟩⟩, fun z => absurd (mk_z.mpr z) nz⟩
    rw [j_Model_judge_L50]
    have go : j_Model_judge_L102 (lY f) (nI fu) K (lY (lmt f)) 13 m := by
      refine fin (lY f) _ 13 _ rfl ?_ ?_ ?_ ?_ ?_
      · rw [lg_l hl]; exact nz
      · rw [lg_l hl]
      · rw [lg_l hl]; rfl
      · rw [lg_l hl]
      · rw [lg_l hl]; rfl
    exact ⟨fun z => absurd z (by decide), fun _ => ⟨fun _ => go, fun z => absurd z (by decide)⟩⟩
  · refine ⟨fun _ => ?_, fun z => absurd hl z⟩
    dsimp only
    rw [pz_cmp0, lY_30, pz_cmp0, lim_30, lY_z]
    refine ⟨fun hy => ⟨fun _ => ⟨fun _ => w_doras R B hp g32 ga ⟨31, ?_⟩, fun z => absurd rfl z⟩, fun z => absurd hl z⟩, fun hy => k m eqK.rf ?_⟩
    · rw [← hdr]
      exact main hl (fun z => hy (mk_z.mp z)) 30 0 (by omega)
    · rw [up_, if_pos (bb_t (Or.inl (by rw [lg_d hl]; exact mk_z.mpr hy)))]
      exact ⟨hu, q0, q1, q2, q4⟩
