/-! THE JUDGE, AS THE TURNS NEED IT -/
/-- the judge may look at p's hand -/
def Wj (S : zS) (p : Nat) (sd : Bool) : Prop := Bd S ∧ Mk S ∧ WfR S ∧ p < 4 ∧ 0 < S.1 21 0 ∧ ssm S p + (if sd = true then 0 else 1) = 14 ∧ (∀ k, k < 34 → ac S p sd k ≤ 4) ∧ S.1 20 0 + S.1 17 0 ≤ 122 ∧ S.1 25 0 = S.1 20 0 ∧ (sd = true → S.1 24 0 = S.1 18 0)
def Hc (m : zm) (v : zV) : Prop := ¬ v.2.2.2 = 0 → m.1 10 0 = nI v.2.1 ∧ m.1 10 1 = nI v.2.2.1 ∧ m.1 10 2 = nI v.1 ∧ m.2 10 4 = lN v.2.2.2
def Hr (m : zm) (v : zV) : Prop := ¬ v.2.2.2 = 0 → m.1 33 46 = nI v.2.1 ∧ m.1 33 47 = nI v.2.2.1 ∧ m.1 33 48 = nI v.1 ∧ m.2 33 49 = lN v.2.2.2
def yb (v : zV) : Int32 := if v.2.2.2 = 0 then 0 else 1
def JgC : Prop := ∀ (S : zS) (p : Nat) (sd : Bool) (m m0 : zm) (K : Int32 → zm → Prop), Rc m S m0 → Wj S p sd → (∀ m', Rc m' S m0 → Hc m' (jd S p sd) → K (yb (jd S p sd)) m') → j_Table_showHand (nI p) (if sd = true then 1 else 0) m (fun m1 => j_Judge_findBest m1 K)
def JgR : Prop := ∀ (S : zS) (p : Nat) (sd : Bool) (m m0 : zm) (K : Int32 → zm → Prop), Rr m S m0 → Wj S p sd → (∀ m', Rr m' S m0 → Hr m' (jd S p sd) → K (yb (jd S p sd)) m') → j_Model_worthy (nI p) (nI (til S)) (if sd = true then 1 else 0) (if sd = true then 0 else nI (S.1 15 0)) m K
def JgW : Prop := ∀ (S : zS) (p : Nat), Wj S p false → ¬ (jd S p false).2.2.2 = 0 → wait_ (cf S p) (mf S p) (S.1 2 p) (til S)
def JgB : Prop := ∀ (S : zS) (p : Nat) (sd : Bool), Wj S p sd → (jd S p sd).2.1 < 1000 ∧ (jd S p sd).2.2.2 < 2 ^ 42
def Jg : Prop := JgC ∧ JgR ∧ JgW ∧ JgB
/-! on what a judgement rests -/
def Ej (T S : zS) : Prop := ∀ a, a < 22 → ¬ (a = 5 ∨ a = 8 ∨ a = 9 ∨ a = 10 ∨ a = 11 ∨ a = 14 ∨ a = 19) → T.1 a = S.1 a
theorem cf_c {S T : zS} {p : Nat} (h : T.1 1 = S.1 1) : cf T p = cf S p := by unfold cf; rw [h]
theorem mf_c {S T : zS} {p : Nat} (h : T.1 3 = S.1 3) : mf T p = mf S p := by unfold mf; rw [h]
theorem til_c {S T : zS} (h : T.1 21 = S.1 21) : til T = til S := by unfold til; rw [h]
theorem lft_c2 {S T : zS} (h : T.1 17 = S.1 17) (h2 : T.1 20 = S.1 20) : lft T = lft S := by unfold lft; rw [h, h2]
theorem ec_c {S T : zS} {p : Nat} {sd : Bool} (h : T.1 1 = S.1 1) (h2 : T.1 21 = S.1 21) : ec T p sd = ec S p sd := by unfold ec; rw [cf_c h, til_c h2]
theorem ac_c {S T : zS} {p : Nat} {sd : Bool} (h : T.1 1 = S.1 1) (h2 : T.1 21 = S.1 21) (h3 : T.1 2 = S.1 2) (h4 : T.1 3 = S.1 3) : ac T p sd = ac S p sd := by unfold ac; rw [cf_c h, til_c h2, h3, mf_c h4]
theorem dor_c {S T : zS} {p : Nat} {al : Nat → Nat} (h : T.1 0 = S.1 0) (h6 : T.1 6 = S.1 6) : ∀ n, dor T p al n = dor S p al n
  | 0 => rfl
  | n + 1 => by rw [dor, dor, dor_c h h6 n, h, h6]
theorem hb_c {S T : zS} {p : Nat} {sd : Bool} (e : Ej T S) : hb_ T p sd = hb_ S p sd := by
  funext y
  unfold hb_
  rw [e 6 (by omega) (by omega), e 7 (by omega) (by omega), cls_c (e 2 (by omega) (by omega)) (e 3 (by omega) (by omega)), e 18 (by omega) (by omega), e 15 (by omega) (by omega), lft_c2 (e 17 (by omega) (by omega)) (e 20 (by omega) (by omega)), e 4 (by omega) (by omega), e 16 (by omega) (by omega), e 12 (by omega) (by omega)]
theorem jd_c {S T : zS} {p : Nat} {sd : Bool} (e : Ej T S) : jd T p sd = jd S p sd := by
  unfold jd Rdv en_
  rw [hb_c e, cls_c (e 2 (by omega) (by omega)) (e 3 (by omega) (by omega)), e 12 (by omega) (by omega), e 13 (by omega) (by omega), til_c (e 21 (by omega) (by omega)), ac_c (e 1 (by omega) (by omega)) (e 21 (by omega) (by omega)) (e 2 (by omega) (by omega)) (e 3 (by omega) (by omega)), dor_c (e 0 (by omega) (by omega)) (e 6 (by omega) (by omega)), ec_c (e 1 (by omega) (by omega)) (e 21 (by omega) (by omega)), mf_c (e 3 (by omega) (by omega)), e 2 (by omega) (by omega), e 17 (by omega) (by omega)]
theorem hr_c {S T : zS} {p lo : Nat} (h : T.1 1 = S.1 1) (h2 : T.1 21 = S.1 21) : hr T p lo = hr S p lo := by unfold hr; rw [cf_c h, til_c h2]
theorem df_c {S T : zS} {p : Nat} (h4 : T.1 4 = S.1 4) (h5 : T.1 5 = S.1 5) : df T p = df S p := by unfold df rf_; rw [h4, h5]
theorem frt_c {S T : zS} {p : Nat} (e : Ej T S) (h5 : T.1 5 = S.1 5) (h8 : T.1 8 = S.1 8) : frt T p = frt S p := by
  unfold frt
  rw [cf_c (e 1 (by omega) (by omega)), mf_c (e 3 (by omega) (by omega)), df_c (e 4 (by omega) (by omega)) h5, e 2 (by omega) (by omega), h8]
theorem tk_c {S T : zS} {p : Nat} (e : Ej T S) (h14 : T.1 14 = S.1 14) : tk_ T p = tk_ S p := by
  have hx : (∃ lo, hr T p lo) = ∃ lo, hr S p lo := by
    congr 1
    funext lo
    exact hr_c (e 1 (by omega) (by omega)) (e 21 (by omega) (by omega))
  unfold tk_
  rw [hx, e 15 (by omega) (by omega), e 6 (by omega) (by omega), lft_c2 (e 17 (by omega) (by omega)) (e 20 (by omega) (by omega)), cf_c (e 1 (by omega) (by omega)), til_c (e 21 (by omega) (by omega)), e 17 (by omega) (by omega), h14]
theorem op_c {S T : zS} {p : Nat} (e : Ej T S) (h14 : T.1 14 = S.1 14) (h5 : T.1 5 = S.1 5) (h8 : T.1 8 = S.1 8) : op_ T p = op_ S p := by
  unfold op_
  rw [tk_c e h14, jd_c e, frt_c e h5 h8, h14]
theorem an_c {S T : zS} {p : Nat} (e : Ej T S) (h14 : T.1 14 = S.1 14) (h10 : T.1 10 = S.1 10) (h32 : T.2.1 32 = S.2.1 32) : an_ T p = an_ S p := by
  have hx : ∀ lo, hr T p lo = hr S p lo := fun lo => hr_c (e 1 (by omega) (by omega)) (e 21 (by omega) (by omega))
  unfold an_
  simp only [hx]
  rw [h10, h14, jd_c e, e 15 (by omega) (by omega), e 6 (by omega) (by omega), lft_c2 (e 17 (by omega) (by omega)) (e 20 (by omega) (by omega)), h32, cf_c (e 1 (by omega) (by omega)), til_c (e 21 (by omega) (by omega)), e 17 (by omega) (by omega)]
theorem tk_lt (S : zS) (p : Nat) : tk_ S p < 16 := by
  unfold tk_
  split
  · omega
  · split <;> split <;> split <;> omega
theorem op_lt (S : zS) (p : Nat) : op_ S p < 32 := by
  have := tk_lt S p
  unfold op_
  split
  · omega
  · split <;> omega
/-! OFFERS -/
/-- before claims are offered -/
def Wo (S : zS) : Prop := Bd S ∧ Mk S ∧ WfR S ∧ 0 < S.1 21 0 ∧ (∀ p, p < 4 → ssm S p = 13) ∧ (∀ k, k < 34 → tot S k + (if k = til S then 1 else 0) ≤ 4) ∧ S.1 20 0 + S.1 17 0 ≤ 122 ∧ S.1 25 0 = S.1 20 0
theorem oS_tot {S : zS} {p k : Nat} (hp : p < 4) : oS S p k ≤ tot S k := by
  unfold tot
  rcases (show p = 0 ∨ p = 1 ∨ p = 2 ∨ p = 3 by omega) with e | e | e | e <;> subst e <;> omega
theorem Wo.j {S : zS} (H : Wo S) {p : Nat} (hp : p < 4) : Wj S p false := by
  obtain ⟨B, M, r, h21, s, t, l, e⟩ := H
  refine ⟨B, M, r, hp, h21, ?_, fun k hk => ?_, l, e, fun z => by cases z⟩
  · rw [s p hp, if_neg (by decide)]
  · have h1 := t k hk
    have h2 := oS_tot (S := S) (k := k) hp
    unfold ac
    unfold oS at h2
    by_cases q : k = til S
    · rw [if_pos q] at h1; rw [if_pos ⟨rfl, q⟩]; omega
    · rw [if_neg q] at h1; rw [if_neg (fun z => q z.2)]; omega
noncomputable def ofS (S : zS) (n : Nat) : zS := (fun a j => if a = 9 ∧ j < n then op_ S j else if a = 10 ∧ j < n then 0 else S.1 a j, S.2)
theorem of_f (S : zS) (n a : Nat) (h : ¬ a = 9) (h2 : ¬ a = 10) : (ofS S n).1 a = S.1 a := by
  funext j
  show (if a = 9 ∧ j < n then op_ S j else if a = 10 ∧ j < n then 0 else S.1 a j) = _
  rw [if_neg (by omega), if_neg (by omega)]
theorem of_0 (S : zS) : ofS S 0 = S := by
  refine Prod.ext ?_ rfl
  funext a j
  show (if a = 9 ∧ j < 0 then op_ S j else if a = 10 ∧ j < 0 then 0 else S.1 a j) = _
  rw [if_neg (by omega), if_neg (by omega)]
theorem of_s (S : zS) (n : Nat) : us (us (ofS S n) 10 n 0) 9 n (op_ S n) = ofS S (n + 1) := by
  refine Prod.ext ?_ rfl
  funext a j
  show (if a = 9 ∧ j = n then op_ S n else if a = 10 ∧ j = n then 0 else if a = 9 ∧ j < n then op_ S j else if a = 10 ∧ j < n then 0 else S.1 a j) = if a = 9 ∧ j < n + 1 then op_ S j else if a = 10 ∧ j < n + 1 then 0 else S.1 a j
  by_cases h : a = 9 ∧ j = n
  · rw [if_pos h, if_pos (by omega), h.2]
  · rw [if_neg h]
    by_cases h2 : a = 10 ∧ j = n
    · rw [if_pos h2, if_neg (by omega), if_pos (by omega)]
    · rw [if_neg h2]
      by_cases h3 : a = 9 ∧ j < n
      · rw [if_pos h3, if_pos (by omega)]
      · rw [if_neg h3, if_neg (c := a = 9 ∧ j < n + 1) (by omega)]
        by_cases h4 : a = 10 ∧ j < n
        · rw [if_pos h4, if_pos (by omega)]
        · rw [if_neg h4, if_neg (by omega)]
theorem Bd.ofS {S : zS} (B : Bd S) (n : Nat) : Bd (ofS S n) := by
  intro a j ha
  show (if a = 9 ∧ j < n then op_ S j else if a = 10 ∧ j < n then 0 else S.1 a j) ≤ bd a
  split
  · rename_i h
    rw [h.1]
    have := op_lt S j
    show op_ S j ≤ 31
    omega
  · split
    · exact Nat.zero_le _
    · exact B a j ha
theorem Wo.of {S T : zS} (H : Wo S) (B : Bd T) (h : ∀ a, ¬ a = 9 → ¬ a = 10 → T.1 a = S.1 a) (hy : T.2 = S.2) : Wo T := by
  obtain ⟨_, M, r, h21, s, t, l, e⟩ := H
  have c1 : ∀ p, cf T p = cf S p := fun p => cf_c (h 1 (by omega) (by omega))
  have m1 : ∀ p, mf T p = mf S p := fun p => mf_c (h 3 (by omega) (by omega))
  refine ⟨B, M.c (h 3 (by omega) (by omega)) (h 22 (by omega) (by omega)) (h 23 (by omega) (by omega)), r.c (h 2 (by omega) (by omega)) (h 3 (by omega) (by omega)) (h 4 (by omega) (by omega)) (h 5 (by omega) (by omega)) (h 6 (by omega) (by omega)) (h 7 (by omega) (by omega)) (by rw [hy]), ?_, fun p hp => ?_, fun k hk => ?_, ?_, ?_⟩
  · rw [h 21 (by omega) (by omega)]; exact h21
  · have := s p hp
    unfold ssm at *
    rw [h 2 (by omega) (by omega), c1]; exact this
  · have := t k hk
    unfold tot oS at *
    rw [h 2 (by omega) (by omega), c1, c1, c1, c1, m1, m1, m1, m1, til_c (h 21 (by omega) (by omega))]
    exact this
  · rw [h 20 (by omega) (by omega), h 17 (by omega) (by omega)]; exact l
  · rw [h 20 (by omega) (by omega), h 25 (by omega) (by omega)]; exact e
theorem or16 : ∀ b, b < 16 → nI b ||| 16 = nI (b + 16) ∧ nI b ||| 0 = nI (b + 0) := by decide +kernel
noncomputable def any_ (S : zS) : Nat := if bb (∀ p, p < 4 → op_ S p = 0) = true then 0 else 1
theorem w_missing {m m0 : zm} {S : zS} {K : Int32 → zm → Prop} (R : Rc m S m0) (B : Bd S) (k0 : (∀ p, p < 4 → S.1 9 p = 0) → K 0 m) (k1 : (¬ ∀ p, p < 4 → S.1 9 p = 0) → K 1 m) : j_Table_isAnswerMissing m K := by
  have main : ∀ n i, i + n = 4 → (∀ j, j < i → S.1 9 j = 0) → j_Table_isAnswerMissing_L2 K (n + 1) (nI i) m := by
    intro n
    induction n with
    | zero =>
      intro i hi h
      rw [j_Table_isAnswerMissing_L2, show (4 : Int32) = nI 4 from rfl, pz_le (by omega) (by omega)]
      exact ⟨fun _ => k0 (fun p hp => h p (by omega)), fun z => absurd (by omega) z⟩
    | succ n ih =>
      intro i hi h
      have b9 := B.b9 i
      rw [j_Table_isAnswerMissing_L2, show (4 : Int32) = nI 4 from rfl, pz_le (by omega) (by omega), nI_clamp (by omega), R.g9 (by omega), pz_0 (by omega)]
      refine ⟨fun z => by omega, fun _ => ⟨pz_in (by omega) (by omega), fun e y hy => ?_, fun e => k1 (fun z => e (z i (by omega)))⟩⟩
      rw [hy, nI_1]
      exact ih (i + 1) (by omega) (fun j hj => by
        by_cases q : j = i
        · rw [q]; exact e
        · exact h j (by omega))
  exact ⟨5, main 4 0 (by omega) (fun j hj => by omega)⟩
theorem w_mayWin {p t : Nat} {m m0 : zm} {S : zS} {K : Int32 → zm → Prop} (J : Jg) (R : Rc m S m0) (H : Wo S) (hp : p < 4) (h21 : S.1 21 0 = t + 1) (k : ∀ m', Rc m' S m0 → K (if bb (¬ (jd S p false).2.2.2 = 0 ∧ ¬ frt S p) = true then 1 else 0) m') : j_Table_mayWin (nI p) m K := by
  have B := H.1
  have b21 := B.b21 0
  have ht : til S = t := by unfold til; omega
  have h34 : t < 34 := by omega
  have g9 : m.1 0 9 = nI t := by rw [R.g21, h21, nI_pred]
  have no : ∀ m', Rc m' S m0 → ((jd S p false).2.2.2 = 0 ∨ frt S p) → j_Table_mayWin_L28 (nI p) K m' := by
    intro m' R h
    have := k m' R
    rw [bb_f (fun z => by rcases h with h | h; exact z.1 h; exact z.2 h)] at this
    exact this
  unfold j_Table_mayWin
  rw [nI_clamp (by omega), g9]
  refine ⟨pz_in hp (by omega), w_Player_isWait (R.pP B hp) h34 (fun hw => ?_) (fun hw => ?_)⟩
  · refine ⟨fun z => absurd z (by decide), fun _ => ⟨pz_in hp (by omega), ?_⟩⟩
    have b8 := B.b8 p
    refine w_Player_isFuriten (R.pP B hp) (R.g8 hp) (by omega) ((R.y p hp).2.trans ((H.2.2.1 p hp).1)) (fun hf => ?_) (fun hf => ?_)
    · exact ⟨fun z => absurd z (by decide), fun _ => no m R (Or.inr hf)⟩
    · refine ⟨fun _ => ?_, fun z => absurd rfl z⟩
      refine J.1 S p false m m0 _ R (H.j hp) (fun m' R' hc => ?_)
      have := k m' R'
      unfold yb
      by_cases q : (jd S p false).2.2.2 = 0
      · rw [bb_f (fun z => z.1 q)] at this
        rw [if_pos q]
        exact ⟨Or.inl rfl, this⟩
      · rw [bb_t ⟨q, hf⟩] at this
        rw [if_neg q]
        exact ⟨Or.inr rfl, this⟩
  · refine ⟨fun _ => no m R (Or.inl ?_), fun z => absurd rfl z⟩
    exact Classical.byContradiction (fun z => hw (by rw [← ht]; exact J.2.2.1 S p (H.j hp) z))
theorem w_offer {t : Nat} {m m0 : zm} {S : zS} {K : Int32 → zm → Prop} (J : Jg) (R : Rc m S m0) (H : Wo S) (h21 : S.1 21 0 = t + 1) (k : ∀ m', Rc m' (ofS S 4) m0 → K (nI (any_ S)) m') : j_Table_offerClaims m K := by
  have B := H.1
  have b14 := B.b14 0
  have main : ∀ n i m, i + n = 4 → Rc m (ofS S i) m0 → j_Table_offerClaims_L2 K (n + 1) (nI i) m := by
    intro n
    induction n with
    | zero =>
      intro i m hi R
      have e4 : i = 4 := by omega
      subst e4
      rw [j_Table_offerClaims_L2, show (4 : Int32) = nI 4 from rfl, pz_le (by omega) (by omega)]
      refine ⟨fun _ => w_missing R (B.ofS 4) (fun h => ⟨Or.inl rfl, ?_⟩) (fun h => ⟨Or.inr rfl, ?_⟩), fun z => absurd (by omega) z⟩
      · have := k m R
        unfold any_ at this
        rw [bb_t (fun p hp => by
          have := h p hp
          rw [show (ofS S 4).1 9 p = op_ S p from by show (if 9 = 9 ∧ p < 4 then _ else _) = _; rw [if_pos ⟨rfl, hp⟩]] at this
          exact this)] at this
        exact this
      · have := k m R
        unfold any_ at this
        rw [bb_f (fun z => h (fun p hp => by
          rw [show (ofS S 4).1 9 p = op_ S p from by show (if 9 = 9 ∧ p < 4 then _ else _) = _; rw [if_pos ⟨rfl, hp⟩]]
          exact z p hp))] at this
        exact this
    | succ n ih =>
      intro i m hi R
      have hi4 : i < 4 := by omega
      rw [j_Table_offerClaims_L2, show (4 : Int32) = nI 4 from rfl, pz_le (by omega) (by omega), nI_clamp (by omega)]
      refine ⟨fun z => by omega, fun _ => ⟨pz_in hi4 (by omega), fun y hy => ?_⟩⟩
      subst hy
      refine R.t10 hi4 (v := 0) (fun m1 R => ?_)
      have go : ∀ m2 v, v = op_ S i → Rc m2 (us (ofS S i) 10 i 0) m0 → j_Table_offerClaims_L52 (j_Table_offerClaims_L2 K (n + 1)) K (nI i) (nI v) (13 + 5 * i) m2 := by
        intro m2 v hv R
        refine R.t9 hi4 (fun m3 R y hy => ?_)
        rw [hy, nI_1]
        refine ih (i + 1) m3 (by omega) ?_
        rw [hv, of_s] at R
        exact R
      have g14 : m1.1 0 8 = nI (S.1 14 0) := R.g14
      rw [g14, pz_eq (by omega) (by omega)]
      have fr : ∀ a, ¬ a = 9 → ¬ a = 10 → (us (ofS S i) 10 i 0).1 a = S.1 a := fun a h1 h2 => by
        funext j
        rw [us_1, if_neg (by omega)]
        exact congrFun (of_f S i a h1 h2) j
      have Bt : Bd (us (ofS S i) 10 i 0) := (B.ofS i).u (Nat.zero_le _)
      have Ht : Wo (us (ofS S i) 10 i 0) := H.of Bt fr rfl
      have ej : Ej (us (ofS S i) 10 i 0) S := fun a _ h => fr a (by omega) (by omega)
      refine ⟨fun hw => ?_, fun hw => ?_⟩
      · refine w_findTakes R Bt hi4 (t := t) h21 Ht.2.2.2.2.2.2.1 ?_
        refine w_mayWin J R Ht hi4 (t := t) h21 (fun m2 R => ?_)
        rw [tk_c ej (fr 14 (by omega) (by omega)), jd_c ej, frt_c ej (fr 5 (by omega) (by omega)) (fr 8 (by omega) (by omega))]
        have l16 := tk_lt S i
        by_cases q : (¬ (jd S i false).2.2.2 = 0 ∧ ¬ frt S i)
        · rw [bb_t q]
          refine ⟨fun z => absurd z (by decide), fun _ => ?_⟩
          show j_Table_offerClaims_L52 _ K _ (nI (tk_ S i) ||| 16) _ _
          rw [(or16 _ l16).1]
          refine go m2 _ ?_ R
          unfold op_
          rw [if_neg hw, bb_t q, if_pos rfl]
        · rw [bb_f q]
          refine ⟨fun _ => ?_, fun z => absurd rfl z⟩
          show j_Table_offerClaims_L52 _ K _ (nI (tk_ S i) ||| 0) _ _
          rw [(or16 _ l16).2]
          refine go m2 _ ?_ R
          unfold op_
          rw [if_neg hw, bb_f q, if_neg (by decide)]
      · refine go m1 0 ?_ R
        unfold op_
        rw [if_pos hw]
  refine ⟨5, main 4 0 m (by omega) ?_⟩
  rw [of_0]
  exact R
