/-! DISCARDS, BOTH SIDES -/
def nri (b : Bool) : Nat := if b = true then 1 else 0
def rin (S : zS) (p : Nat) (b : Bool) : Nat := if b = true then (if S.1 4 p = 0 ∧ S.1 16 0 = 0 then 2 else 1) else S.1 6 p
def dok (S : zS) (k : Nat) (b : Bool) : Prop := ¬ S.1 1 (34 * S.1 14 0 + k) = 0 ∧ (S.1 6 (S.1 14 0) = 0 ∨ S.1 21 0 = k + 1) ∧ (b = true → MR S (S.1 14 0) k)
theorem w_layOff {p k : Nat} {m m0 : zm} {S : zS} {K : zm → Prop} (R : Rc m S m0) (B : Bd S) (hp : p < 4) (hk : k < 34) (hc : ¬ S.1 1 (34 * p + k) = 0) (hr : S.1 4 p + 1 ≤ 95) (hy : S.2.2 1 p = lN (mk_ (df S p) 34)) (kk : ∀ m', Rc m' (us (us (uy (us S 1 (34 * p + k) (S.1 1 (34 * p + k) - 1)) 1 p (lN (mk_ (fun j => df S p j || j == k) 34))) 5 (100 * p + S.1 4 p) k) 4 p (S.1 4 p + 1)) m0 → K m') : j_Player_layOff (13 + 5 * p) (nI k) m K := by
  have b1 := B.b1 (34 * p + k)
  unfold j_Player_layOff
  rw [nI_clamp (by omega), R.g1 hp hk, nI_dec (by omega)]
  refine ⟨pz_in hk (by omega), pz_in hk (by omega), R.t1 hp hk (fun m1 R m2 h2 => ?_)⟩
  have ey : m1.2 (13 + 5 * p) 5 = lN (mk_ (df S p) 34) := (R.y p hp).2.trans hy
  rw [ey, or_bit hk] at h2
  have R := R.wd hp h2
  rw [show m2.1 (13 + 5 * p) 4 = nI (S.1 4 p) from R.g4 hp, show ((96 : Int32) ≤ nI (S.1 4 p)) = (96 ≤ S.1 4 p) from pz_le (a := 96) (by omega) (by omega), nI_clamp (by omega)]
  refine ⟨fun z => by omega, fun _ => ⟨pz_in (by omega) (by omega), R.t5 hp (by omega) (fun m3 R => ?_)⟩⟩
  rw [show m3.1 (13 + 5 * p) 4 = nI (S.1 4 p) from R.g4 hp, nI_1]
  exact R.t4 hp (fun m4 R => kk m4 R)
theorem rc_95 {S : zS} (W : Wf S) (h11 : S.1 11 0 = 1) : S.1 4 (S.1 14 0) + 1 ≤ 95 := by
  obtain ⟨B, M, w, r, ⟨wc, p1, p2, p3, _⟩, _, o, w1, _⟩ := W
  obtain ⟨s, tt, rv, h26, h24, h28⟩ := w1 h11
  have b14 := B.b14 0
  have m4 : msm S ≤ 16 := by
    have h0 := B.b2 0
    have h1 := B.b2 1
    have h2 := B.b2 2
    have h3 := B.b2 3
    unfold msm; omega
  unfold rsm at rv
  rcases (show S.1 14 0 = 0 ∨ S.1 14 0 = 1 ∨ S.1 14 0 = 2 ∨ S.1 14 0 = 3 by omega) with e | e | e | e <;> rw [e] <;> omega
theorem bI_n (b : Bool) : bI b = nI (nri b) := by cases b <;> rfl
theorem t_eq {v k : Nat} (hv : v ≤ 34) (hk : k < 34) : (nI k = nI v - 1) = (v = k + 1) := by
  by_cases h : v = 0
  · subst h
    refine propext ⟨fun z => ?_, fun z => by omega⟩
    have := (m1_v 0 (by omega)).2.mpr rfl
    rw [← z] at this
    exact absurd this (nI_n0 (by omega))
  · rw [nI_dec (by omega), pz_eq (by omega) (by omega)]
    exact propext ⟨fun z => by omega, fun z => by omega⟩
theorem c_disc {k : Nat} {b : Bool} {m m0 : zm} {S : zS} {K : Int32 → zm → Prop} (R : Rc m S m0) (W : Wf S) (h11 : S.1 11 0 = 1) (hk : k < 34) (kN : ¬ dok S k b → ∀ m', Rc m' S m0 → K (-1) m')
    (kY : dok S k b → ∀ m', Rc m' (us (dcS S (S.1 14 0) k (nri b) (rin S (S.1 14 0) b)) 11 0 2) m0 → j_Table_offerClaims m' (fun r15 m14 => ((¬ r15 = 0 → (j_Table_discard_L140 (nI k) (bI b) K m14)) ∧ (r15 = 0 → (j_Table_settle m14 (fun m16 => (j_Table_discard_L140 (nI k) (bI b) K m16))))))) : j_Table_discard (nI k) (bI b) m K := by
  have B := W.1
  have b14 := B.b14 0
  have hp : S.1 14 0 < 4 := by omega
  have b1 := B.b1 (34 * S.1 14 0 + k)
  have b6 := B.b6 (S.1 14 0)
  have b4 := B.b4 (S.1 14 0)
  have b16 := B.b16 0
  have b21 := B.b21 0
  have isB : zm_isB (bI b) := by
    cases b
    · exact Or.inl rfl
    · exact Or.inr rfl
  have l109 : ∀ m', Rc m' (us (us (us (us (uy (us S 1 (34 * S.1 14 0 + k) (S.1 1 (34 * S.1 14 0 + k) - 1)) 1 (S.1 14 0) (lN (mk_ (fun j => df S (S.1 14 0) j || j == k) 34))) 5 (100 * S.1 14 0 + S.1 4 (S.1 14 0)) k) 4 (S.1 14 0) (S.1 4 (S.1 14 0) + 1)) 7 (S.1 14 0) (nri b)) 6 (S.1 14 0) (rin S (S.1 14 0) b)) m0 → dok S k b → j_Table_discard_L109 (nI k) (bI b) K m' := by
    intro m' R ok
    unfold j_Table_discard_L109
    rw [bI_n]
    refine ⟨by rw [← bI_n]; exact isB, R.t19 (fun m1 R => R.t21' (fun m2 R => R.t15 (v := 0) (fun m3 R => R.t11 (v := 2) (fun m4 R => ?_))))⟩
    rw [← bI_n]
    refine kY ok m4 ?_
    have R := ((R.x 28 0 (if nri b = 1 then S.1 14 0 + 1 else 0) (fun _ h => h)).x 26 0 0 (fun _ h => h)).x 27 0 k (fun _ h => h)
    rw [us_cm _ (by omega : ¬ (11 = 28 ∧ 0 = 0)), us_cm _ (by omega : ¬ (11 = 26 ∧ 0 = 0)), us_cm _ (by omega : ¬ (11 = 27 ∧ 0 = 0))] at R
    exact R
  have l68 : ∀ m', Rc m' S m0 → dok S k b → j_Table_discard_L68 (nI k) (bI b) K (13 + 5 * S.1 14 0) m' := by
    intro m' R ok
    have l87 : ∀ v, (b = true → rin S (S.1 14 0) b = v) → j_Table_discard_L87 (nI k) (bI b) K (13 + 5 * S.1 14 0) (nI v) m' := by
      intro v hv
      unfold j_Table_discard_L87
      refine w_layOff R B hp hk ok.1 (rc_95 W h11) (W.2.2.2.1 _ hp).1 (fun m1 R => ?_)
      rw [bI_n]
      refine ⟨by rw [← bI_n]; exact isB, R.t7 hp (fun m2 R => ?_)⟩
      rw [← bI_n, bI_0]
      refine ⟨fun h => ?_, fun h => R.t6 hp (fun m3 R => ?_)⟩
      · subst h
        exact l109 m2 (R.ide 6 (S.1 14 0) _ rfl) ok
      · have hb : b = true := ts_nf h
        rw [← hv hb] at R
        exact l109 m3 R ok
    unfold j_Table_discard_L68 j_Table_discard_L86
    rw [R.g4 hp, R.g16, pz_0 (by omega), pz_0 (by omega)]
    refine ⟨fun h => l87 1 (fun z => ?_), fun h => ⟨fun h2 => l87 1 (fun z => ?_), fun h2 => l87 2 (fun z => ?_)⟩⟩
    · unfold rin; rw [if_pos z, if_neg (fun q => h q.1)]
    · unfold rin; rw [if_pos z, if_neg (fun q => h2 q.2)]
    · unfold rin; rw [if_pos z, if_pos ⟨h, h2⟩]
  have l53 : ¬ S.1 1 (34 * S.1 14 0 + k) = 0 → (S.1 6 (S.1 14 0) = 0 ∨ S.1 21 0 = k + 1) → j_Table_discard_L53 (nI k) (bI b) K (13 + 5 * S.1 14 0) m := by
    intro hc h6
    unfold j_Table_discard_L53
    rw [bI_0]
    refine ⟨fun h => l68 m R ⟨hc, h6, fun z => by rw [h] at z; cases z⟩, fun h => ?_⟩
    have hb : b = true := ts_nf h
    refine w_mayRiichi R B hp hk hc W.2.2.2.2.1.2.2.1 (fun m1 R => ?_)
    rw [bI_0]
    refine ⟨fun q => l68 m1 R ⟨hc, h6, fun _ => bb_iff.mp (ts_nf q)⟩, fun q => kN (fun ok => ?_) m1 R⟩
    rw [bb_t (ok.2.2 hb)] at q
    cases q
  unfold j_Table_discard
  rw [show (m.1 0 3 = 1) = (S.1 11 0 = 1) from ph_eq B R.g11 1 (by omega)]
  refine ⟨fun z => absurd h11 z, fun _ => w_isKind hk ⟨fun _ => ?_, fun z => absurd z (by decide)⟩⟩
  rw [R.g14, nI_clamp (by omega), nI_clamp (by omega)]
  refine ⟨pz_in hp (by omega), fun y hy => ?_⟩
  subst hy
  rw [R.g1 hp hk, pz_0 (by omega), R.g6 hp, pz_0 (by omega), R.g21, t_eq b21 hk]
  refine ⟨pz_in hk (by omega), fun h => kN (fun ok => ok.1 h) m R, fun hc => ⟨fun h6 => l53 hc (Or.inl h6), fun h6 => ⟨fun h => l53 hc (Or.inr h), fun h => kN (fun ok => ?_) m R⟩⟩⟩
  rcases ok.2.1 with z | z
  · exact h6 z
  · exact h z
theorem w_isTurn {m m0 : zm} {S : zS} {K : Int32 → zm → Prop} (R : Rr m S m0) (B : Bd S) (hT : S.1 11 0 = 1 → K 1 m) (hF : ¬ S.1 11 0 = 1 → K 0 m) : j_Model_isTurn m K := by
  unfold j_Model_isTurn
  rw [show (m.1 33 3 = 1) = (S.1 11 0 = 1) from ph_eq B R.g11 1 (by omega)]
  exact ⟨fun h => ⟨Or.inl rfl, hF h⟩, fun h => ⟨Or.inr rfl, hT h⟩⟩
theorem r_disc {k : Nat} {b : Bool} {m m0 : zm} {S : zS} {K : Int32 → zm → Prop} (R : Rr m S m0) (W : Wf S) (h11 : S.1 11 0 = 1) (hk : k < 34) (kN : ¬ dok S k b → ∀ m', Rr m' S m0 → K (-1) m')
    (kY : dok S k b → ∀ m', Rr m' (dcS S (S.1 14 0) k (nri b) (rin S (S.1 14 0) b)) m0 → ∃ n, j_Model_ask_L15 (nI k) (nI 0) (fun m18 => K (m18.1 33 3) m18) n 0 0 m') : j_Model_discard (nI k) (bI b) m K := by
  have B := W.1
  have M := W.2.1
  have b14 := B.b14 0
  have hp : S.1 14 0 < 4 := by omega
  have b1 := B.b1 (34 * S.1 14 0 + k)
  have b6 := B.b6 (S.1 14 0)
  have b4 := B.b4 (S.1 14 0)
  have b16 := B.b16 0
  have b21 := B.b21 0
  have rc := rc_95 W h11
  obtain ⟨s, tt, rv, h26, h24, h28⟩ := W.2.2.2.2.2.2.2.1 h11
  have p2 := W.2.2.2.2.1.2.2.1
  have p3 := W.2.2.2.2.1.2.2.2.1 (by omega)
  have isB : zm_isB (bI b) := by
    cases b
    · exact Or.inl rfl
    · exact Or.inr rfl
  have l188 : ∀ m', dok S k b → Rr m' (us (us (us (us S 1 (34 * S.1 14 0 + k) (S.1 1 (34 * S.1 14 0 + k) - 1)) 7 (S.1 14 0) (nri b)) 6 (S.1 14 0) (rin S (S.1 14 0) b)) 28 0 (if nri b = 1 then S.1 14 0 + 1 else 0)) m0 → j_Model_discard_L188 (nI k) (bI b) K (nI (S.1 14 0)) m' := by
    intro m' ok R
    unfold j_Model_discard_L188
    rw [nI_clamp (by omega), show m'.1 40 (S.1 14 0) = nI (S.1 4 (S.1 14 0)) from R.g4 hp, pz_100, nI_clamp (by omega)]
    refine ⟨pz_in hp (by omega), pz_in (by omega) (by omega), R.t5 hp (by omega) (fun m1 R => ⟨pz_in hp (by omega), pz_in hp (by omega), ?_⟩)⟩
    rw [show m1.1 40 (S.1 14 0) = nI (S.1 4 (S.1 14 0)) from R.g4 hp, nI_1]
    refine R.t4 hp (fun m2 R => R.t26n (fun m3 R => R.t27 (fun m4 R => ⟨Or.inl rfl, R.t15 (v := 0) (fun m5 R => kY ok m5 ?_)⟩)))
    have R := (R.x 19 0 (nri b) (fun _ h => h)).x 21 0 (k + 1) (fun _ h => h)
    refine R.cn (fun a j _ _ => ?_) rfl (fun p hp => rfl)
    unfold dcS
    simp only [us_1, uy_1]
    by_cases h0 : a = 1
    · subst h0; first | (simp; done) | (by_cases hj : j = 0 <;> simp [hj])
    by_cases h1 : a = 5
    · subst h1; first | (simp; done) | (by_cases hj : j = 0 <;> simp [hj])
    by_cases h2 : a = 4
    · subst h2; first | (simp; done) | (by_cases hj : j = 0 <;> simp [hj])
    by_cases h3 : a = 7
    · subst h3; first | (simp; done) | (by_cases hj : j = 0 <;> simp [hj])
    by_cases h4 : a = 6
    · subst h4; first | (simp; done) | (by_cases hj : j = 0 <;> simp [hj])
    by_cases h5 : a = 19
    · subst h5; first | (simp; done) | (by_cases hj : j = 0 <;> simp [hj])
    by_cases h6 : a = 21
    · subst h6; first | (simp; done) | (by_cases hj : j = 0 <;> simp [hj])
    by_cases h7 : a = 15
    · subst h7; first | (simp; done) | (by_cases hj : j = 0 <;> simp [hj])
    by_cases h8 : a = 28
    · subst h8; first | (simp; done) | (by_cases hj : j = 0 <;> simp [hj])
    by_cases h9 : a = 26
    · subst h9; first | (simp; done) | (by_cases hj : j = 0 <;> simp [hj])
    by_cases h10 : a = 27
    · subst h10; first | (simp; done) | (by_cases hj : j = 0 <;> simp [hj])
    simp [h0, h1, h2, h3, h4, h5, h6, h7, h8, h9, h10]
  have l64 : ¬ S.1 1 (34 * S.1 14 0 + k) = 0 → (S.1 6 (S.1 14 0) = 0 ∨ S.1 21 0 = k + 1) → (b = true → S.1 6 (S.1 14 0) = 0) → j_Model_discard_L64 (nI k) (bI b) K (nI (S.1 14 0)) m := by
    intro hc h6 hb6
    unfold j_Model_discard_L64
    rw [pz_34, nI_clamp (by omega), R.g1 hp hk, nI_dec (by omega)]
    refine ⟨pz_in (by omega) (by omega), pz_in (by omega) (by omega), R.t1 hp hk (fun m1 R => ?_)⟩
    have B1 : Bd (us S 1 (34 * S.1 14 0 + k) (S.1 1 (34 * S.1 14 0 + k) - 1)) := B.u (show S.1 1 (34 * S.1 14 0 + k) - 1 ≤ 4 by omega)
    have M1 : Mk (us S 1 (34 * S.1 14 0 + k) (S.1 1 (34 * S.1 14 0 + k) - 1)) := M.c rfl rfl rfl
    have l145 : ∀ m', dok S k b → Rr m' (us S 1 (34 * S.1 14 0 + k) (S.1 1 (34 * S.1 14 0 + k) - 1)) m0 → j_Model_discard_L145 (nI k) (bI b) K (nI (S.1 14 0)) m' := by
      intro m' ok R
      unfold j_Model_discard_L145
      rw [nI_clamp (by omega), bI_n]
      refine ⟨pz_in hp (by omega), by rw [← bI_n]; exact isB, R.t7 hp (fun m2 R => ?_)⟩
      rw [← bI_n, bI_0]
      refine ⟨fun h => ?_, fun h => ⟨pz_in hp (by omega), ?_⟩⟩
      · subst h
        exact l188 m2 ok ((R.ide 6 (S.1 14 0) _ rfl).ide 28 0 0 h28.symm)
      · have hb : b = true := ts_nf h
        have l182 : ∀ v, rin S (S.1 14 0) b = v → j_Model_discard_L182 (nI k) (bI b) K (nI (S.1 14 0)) (nI v) (nI (S.1 14 0)) m2 := by
          intro v hv
          unfold j_Model_discard_L182
          rw [nI_clamp (by omega)]
          refine ⟨pz_in hp (by omega), R.t6 hp (fun m3 R => R.t28' (fun m4 R => l188 m4 ok ?_))⟩
          rw [hv, if_pos (by rw [hb]; rfl)]
          exact R
        unfold j_Model_discard_L181
        rw [show m2.1 40 (S.1 14 0) = nI (S.1 4 (S.1 14 0)) from R.g4 hp, show m2.1 33 17 = nI (S.1 16 0) from R.g16, pz_0 (by omega), pz_0 (by omega)]
        refine ⟨fun h => l182 1 ?_, fun h => ⟨fun h2 => l182 1 ?_, fun h2 => l182 2 ?_⟩⟩
        · unfold rin; rw [if_pos hb, if_neg (fun q => h q.1)]
        · unfold rin; rw [if_pos hb, if_neg (fun q => h2 q.2)]
        · unfold rin; rw [if_pos hb, if_pos ⟨h, h2⟩]
    have l128 : ∀ m', ¬ dok S k b → Rr m' (us S 1 (34 * S.1 14 0 + k) (S.1 1 (34 * S.1 14 0 + k) - 1)) m0 → j_Model_discard_L128 (nI k) (bI b) K (nI (S.1 14 0)) m' := by
      intro m' no R
      unfold j_Model_discard_L128
      rw [pz_34, nI_clamp (by omega), R.g1 hp hk, us_1, if_pos ⟨rfl, rfl⟩, nI_1]
      refine ⟨pz_in (by omega) (by omega), pz_in (by omega) (by omega), R.t1 hp hk (fun m2 R => kN no m2 ?_)⟩
      rw [us_us, show S.1 1 (34 * S.1 14 0 + k) - 1 + 1 = S.1 1 (34 * S.1 14 0 + k) by omega, us_id] at R
      exact R
    rw [bI_0]
    refine ⟨fun h => l145 m1 ⟨hc, h6, fun z => by rw [h] at z; cases z⟩ R, fun h => ?_⟩
    have hb : b = true := ts_nf h
    have hlf : lft S ≤ 122 := by unfold lft; omega
    refine w_closedR R B1 M1 hp (fun hcl => ⟨fun z => absurd z (by decide), fun _ => ⟨pz_in hp (by omega), ?_⟩⟩) (fun hcl => ⟨fun _ => l128 m1 (fun ok => hcl (ok.2.2 hb).2.1) R, fun z => absurd rfl z⟩)
    rw [nI_clamp (by omega), show m1.1 35 (S.1 14 0) = S.2.1 30 (S.1 14 0) from R.g30 hp]
    refine ⟨fun h3 => l128 m1 (fun ok => (ok.2.2 hb).2.2.1 h3) R, fun h30 => w_left R p2 p3 ?_⟩
    rw [show lft (us S 1 (34 * S.1 14 0 + k) (S.1 1 (34 * S.1 14 0 + k) - 1)) = lft S from rfl, show (nI (lft S) < (4 : Int32)) = (lft S < 4) from pz_lt (b := 4) (by omega) (by omega), show m1.1 33 18 = nI (S.1 26 0) - 1 from R.g26, h26, propext (m1_v _ (by omega)).2]
    refine ⟨fun h3 => l128 m1 (fun ok => by have := (ok.2.2 hb).2.2.2.1; omega) R, fun h4 => ⟨fun h3 => l128 m1 (fun ok => by have := (ok.2.2 hb).2.2.2.2.1; omega) R, fun h21 => ?_⟩⟩
    have rp := R.rP B1 M1 hp
    rw [cf_dn hk] at rp
    have h13 : 3 * S.1 2 (S.1 14 0) + csum (upd_ (cf S (S.1 14 0)) k (S.1 1 (34 * S.1 14 0 + k) - 1)) 34 = 13 := by
      have h1 := s (S.1 14 0) hp
      rw [if_pos rfl] at h1
      unfold ssm at h1
      have := csum_upd (c := cf S (S.1 14 0)) (k := k) (v := S.1 1 (34 * S.1 14 0 + k) - 1) 34
      rw [if_pos hk, if_pos hk, cf_at hk] at this
      omega
    refine w_Model_waitsOf hp rp (fun j => ?_) (Or.inl h13) (fun m2 e2 => ?_)
    · have := cf_5 B1 (p := S.1 14 0) j
      rw [cf_dn hk] at this
      exact this
    · have R := R.keep e2
      have hlt := wm_lt (upd_ (cf S (S.1 14 0)) k (S.1 1 (34 * S.1 14 0 + k) - 1)) (mf S (S.1 14 0)) (S.1 2 (S.1 14 0))
      rw [pz_cmp0]
      have e0 := lN_0 (n := wm_ (upd_ (cf S (S.1 14 0)) k (S.1 1 (34 * S.1 14 0 + k) - 1)) (mf S (S.1 14 0)) (S.1 2 (S.1 14 0))) (by omega)
      refine ⟨fun h => l145 m2 ⟨hc, h6, fun _ => ⟨hb6 hb, hcl, h30, by omega, by omega, fun z => h (Eq.mpr e0 z)⟩⟩ R, fun h => l128 m2 (fun ok => (ok.2.2 hb).2.2.2.2.2 (Eq.mp e0 h)) R⟩
  unfold j_Model_discard
  refine w_isTurn R B (fun _ => ⟨fun z => absurd z (by decide), fun _ => ?_⟩) (fun z => absurd h11 z)
  rw [R.g14, pz_34, nI_clamp (by omega), R.g1 hp hk, pz_0 (by omega), show ((33 : Int32) < nI k) = (33 < k) from pz_lt (a := 33) (by omega) (by omega)]
  refine ⟨fun z => absurd z (nI_n0 (by omega)), fun _ => ⟨fun z => by omega, fun _ => ⟨pz_in (by omega) (by omega), fun hc y hy => ?_, fun h => kN (fun ok => ok.1 h) m R⟩⟩⟩
  subst hy
  rw [nI_clamp (by omega), R.g6 hp, show (nI (S.1 6 (S.1 14 0)) ≤ (0 : Int32)) = (S.1 6 (S.1 14 0) ≤ 0) from pz_le (b := 0) (by omega) (by omega), R.g26, h26, t_eq b21 hk, bI_0]
  refine ⟨pz_in hp (by omega), fun h6 => l64 hc (Or.inl (by omega)) (fun _ => by omega), fun h6 => ⟨fun h => kN (fun ok => ?_) m R, fun h => ⟨fun h2 => l64 hc (Or.inr h2) (fun z => by rw [h] at z; cases z), fun h2 => kN (fun ok => ?_) m R⟩⟩⟩
  · have := (ok.2.2 (ts_nf h)).1
    omega
  · rcases ok.2.1 with z | z
    · omega
    · exact h2 z
theorem q_discard (J : Jg) {a : Int32} {b : Bool} {m : zm} (I : Inv m) {F : Int32 → zm → Prop → Prop} (hF : ∀ r m P, P → F r m P) {K : Int32 → Int32 → zm → Prop} (hK : ∀ r m', Inv m' → K r r m') : j_Table_discard a (bI b) m (fun r1 m1 => F r1 m1 (j_Model_discard a (bI b) m1 (fun r2 m2 => K r1 r2 m2))) := by
  have I' := I
  obtain ⟨S, R, Q, W⟩ := I
  have B := W.1
  have b14 := B.b14 0
  by_cases h11 : S.1 11 0 = 1
  · rcases ar_or (n := 34) (by omega) a with ⟨k, hk, e⟩ | ha
    · subst e
      by_cases ok : dok S k b
      · obtain ⟨S', W', hc, hr⟩ := h_ask0 J (dc_W (ri := nri b) (rn := rin S (S.1 14 0) b) W h11 hk ok.1 (by
          cases b
          · exact Or.inl ⟨rfl, rfl⟩
          · refine Or.inr ⟨rfl, ?_, (ok.2.2 rfl).2.1⟩
            show (if S.1 4 (S.1 14 0) = 0 ∧ S.1 16 0 = 0 then 2 else 1) = 1 ∨ (if S.1 4 (S.1 14 0) = 0 ∧ S.1 16 0 = 0 then 2 else 1) = 2
            split
            · exact Or.inr rfl
            · exact Or.inl rfl)) (t := k) rfl rfl
        refine c_disc R W h11 hk (fun z => absurd ok z) (fun _ m1 R => hc m1 m _ R (fun m2 R => ?_))
        refine hF _ _ _ (r_disc (Q.re R.fr) W h11 hk (fun z => absurd ok z) (fun _ m3 Q => hr m3 m2 _ Q (fun m4 Q => ?_)))
        have e1 : m2.1 0 3 = nI (S'.1 11 0) := R.g11
        have e2 : m4.1 33 3 = nI (S'.1 11 0) := Q.g11
        rw [e1, e2]
        exact hK _ _ (Inv.mk R Q W')
      · refine c_disc R W h11 hk (fun _ m1 R => ?_) (fun z => absurd z ok)
        exact hF _ _ _ (r_disc (Q.re R.fr) W h11 hk (fun _ m2 Q => hK _ _ (Inv.mk R Q W)) (fun z => absurd z ok))
    · unfold j_Table_discard
      rw [show (m.1 0 3 = 1) = (S.1 11 0 = 1) from ph_eq B R.g11 1 (by omega)]
      refine ⟨fun z => absurd h11 z, fun _ => w_isKindF ha ⟨fun z => absurd rfl z, fun _ => ?_⟩⟩
      refine hF _ _ _ ?_
      unfold j_Model_discard
      refine w_isTurn Q B (fun _ => ⟨fun z => absurd z (by decide), fun _ => ⟨fun _ => hK _ _ I', fun h1 => ⟨fun _ => hK _ _ I', fun h2 => ?_⟩⟩⟩) (fun z => absurd h11 z)
      exfalso
      rcases ha with z | z
      · exact h1 z
      · exact h2 (Int32.lt_of_lt_of_le (show (33 : Int32) < nI 34 by decide) z)
  · unfold j_Table_discard
    rw [show (m.1 0 3 = 1) = (S.1 11 0 = 1) from ph_eq B R.g11 1 (by omega)]
    refine ⟨fun _ => hF _ _ _ ?_, fun z => absurd z h11⟩
    unfold j_Model_discard
    exact w_isTurn Q B (fun z => absurd z h11) (fun _ => ⟨fun _ => hK _ _ I', fun z => absurd rfl z⟩)
