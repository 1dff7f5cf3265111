/-! THE REFERENCE ASKS -/
noncomputable def anyn (S : zS) (n : Nat) : Nat := if bb (∀ p, p < n → op_ S p = 0) = true then 0 else 1
theorem anyn_s (S : zS) (n : Nat) : anyn S (n + 1) = if anyn S n = 0 ∧ op_ S n = 0 then 0 else 1 := by
  unfold anyn
  by_cases q : ∀ p, p < n → op_ S p = 0
  · rw [bb_t q, if_pos rfl]
    by_cases e : op_ S n = 0
    · rw [bb_t (fun p hp => by
        by_cases z : p = n
        · rw [z]; exact e
        · exact q p (by omega)), if_pos rfl, if_pos ⟨rfl, e⟩]
    · rw [bb_f (fun z => e (z n (by omega))), if_neg (by decide), if_neg (fun z => e z.2)]
  · rw [bb_f q, bb_f (P := ∀ p, p < n + 1 → op_ S p = 0) (fun z => q (fun p hp => z p (by omega))), if_neg (by decide : ¬ false = true), if_neg (by omega)]
theorem anyn_2 (S : zS) (n : Nat) : anyn S n = 0 ∨ anyn S n = 1 := by
  unfold anyn
  split
  · exact Or.inl rfl
  · exact Or.inr rfl
theorem of_s' (S : zS) (n v : Nat) (h : v = op_ S n) : us (us (us (ofS S n) 9 n 0) 10 n 0) 9 n v = ofS S (n + 1) := by
  rw [us_cm _ (by omega : ¬ (9 = 10 ∧ n = n)), us_us, h, of_s]
theorem w_furR {p : Nat} {m m0 : zm} {S : zS} {K : Int32 → zm → Prop} (R : Rr m S m0) (B : Bd S) (M : Mk S) (hp : p < 4) (hs : ssm S p = 13 ∨ ssm S p = 14) (hT : frt S p → ∀ m', Rr m' S m0 → K 1 m') (hF : ¬ frt S p → ∀ m', Rr m' S m0 → K 0 m') : j_Model_isFuriten (nI p) m K := by
  have b8 := B.b8 p
  exact w_Model_isFuriten hp (R.rP B M hp) (cf_5 B) hs (R.rV B hp) (R.g8 hp) (by omega) (fun k _ => df_iff) (fun h m' e => hT h m' (R.keep e)) (fun h m' e => hF h m' (R.keep e))
theorem w_ask {t rb : Nat} {m m0 : zm} {S : zS} {K : zm → Prop} (J : Jg) (R : Rr m S m0) (H : Wo S) (h21 : S.1 21 0 = t + 1) (h15 : S.1 15 0 = rb) (k1 : any_ S = 1 → ∀ m', Rr m' (us (us (ofS S 4) 11 0 2) 29 0 1) m0 → K m') (k0 : any_ S = 0 → ∀ m', Rr m' (us (us (ofS S 4) 11 0 2) 29 0 0) m0 → j_Model_settle m' K) : ∃ n, j_Model_ask_L15 (nI t) (nI rb) K n 0 0 m := by
  have B := H.1
  have b14 := B.b14 0
  have b15 := B.b15 0
  have b17 := B.b17 0
  have b21 := B.b21 0
  have ht : til S = t := by unfold til; omega
  have h34 : t < 34 := by omega
  have hlf : lft S ≤ 122 := by unfold lft; omega
  have main : ∀ n i m, i + n = 4 → Rr m (ofS S i) m0 → j_Model_ask_L15 (nI t) (nI rb) K (n + 1) (nI (anyn S i)) (nI i) m := by
    intro n
    induction n with
    | zero =>
      intro i m hi R
      have e4 : i = 4 := by omega
      subst e4
      rw [j_Model_ask_L15, show (4 : Int32) = nI 4 from rfl, pz_le (by omega) (by omega)]
      refine ⟨fun _ => R.t11 (v := 2) (fun m1 R => ?_), fun z => absurd (by omega) z⟩
      rcases anyn_2 S 4 with e | e
      · rw [e]
        refine ⟨Or.inl rfl, R.t29 (v := 0) (fun m2 R => ⟨fun z => absurd rfl z, fun _ => ?_⟩)⟩
        exact k0 e m2 R
      · rw [e]
        refine ⟨Or.inr rfl, R.t29 (v := 1) (fun m2 R => ⟨fun _ => k1 e m2 R, fun z => absurd z (by decide)⟩)⟩
    | succ n ih =>
      intro i m hi R
      have hi4 : i < 4 := by omega
      have b1 := B.b1 (34 * i + t)
      have b6 := B.b6 i
      have l16 := tk_lt S i
      have l32 := op_lt S i
      rw [j_Model_ask_L15, show (4 : Int32) = nI 4 from rfl, pz_le (by omega) (by omega), nI_clamp (by omega)]
      refine ⟨fun z => by omega, fun _ => ⟨pz_in hi4 (by omega), ?_⟩⟩
      refine R.t9 hi4 (v := 0) (fun m1 R => ⟨pz_in hi4 (by omega), R.t10 hi4 (v := 0) (fun m2 R => ?_)⟩)
      have g14 : m2.1 33 4 = nI (S.1 14 0) := R.g14
      rw [g14, pz_eq (by omega) (by omega)]
      have fr : ∀ v a, ¬ a = 9 → ¬ a = 10 → (us (us (us (ofS S i) 9 i 0) 10 i 0) 9 i v).1 a = S.1 a := fun v a h1 h2 => by
        funext j
        rw [us_1, us_1, us_1, if_neg (by omega), if_neg (by omega), if_neg (by omega)]
        exact congrFun (of_f S i a h1 h2) j
      have fr2 : ∀ a, ¬ a = 9 → ¬ a = 10 → (us (us (ofS S i) 9 i 0) 10 i 0).1 a = S.1 a := fun a h1 h2 => by
        funext j
        rw [us_1, us_1, if_neg (by omega), if_neg (by omega)]
        exact congrFun (of_f S i a h1 h2) j
      have Bt : Bd (us (us (ofS S i) 9 i 0) 10 i 0) := ((B.ofS i).u (Nat.zero_le _)).u (Nat.zero_le _)
      have Ht : Wo (us (us (ofS S i) 9 i 0) 10 i 0) := H.of Bt fr2 rfl
      have ej : Ej (us (us (ofS S i) 9 i 0) 10 i 0) S := fun a _ h => fr2 a (by omega) (by omega)
      have nx : ∀ m3 x, Rr m3 (ofS S (i + 1)) m0 → x = nI (anyn S (i + 1)) → j_Model_ask_L203 (nI t) (nI rb) (j_Model_ask_L15 (nI t) (nI rb) K (n + 1)) K x (nI i) m3 := by
        intro m3 x R hx y hy
        rw [hy, hx, nI_1]
        exact ih (i + 1) m3 (by omega) R
      refine ⟨fun hw => ?_, fun hw => ?_⟩
      · have e0 : op_ S i = 0 := by unfold op_; rw [if_pos hw.symm.symm]
        refine nx m2 _ ?_ ?_
        · rw [us_cm _ (by omega : ¬ (9 = 10 ∧ i = i)), ← e0] at R
          rw [show us (us (ofS S i) 10 i (op_ S i)) 9 i (op_ S i) = ofS S (i + 1) from by
            have := of_s S i
            rw [e0] at this ⊢
            exact this] at R
          exact R
        · rw [anyn_s, e0]
          rcases anyn_2 S i with e | e <;> rw [e] <;> rfl
      have f183 : ∀ m3 v, v = op_ S i → Rr m3 (us (us (us (ofS S i) 9 i 0) 10 i 0) 9 i v) m0 → j_Model_ask_L183 (nI t) (nI rb) (j_Model_ask_L15 (nI t) (nI rb) K (n + 1)) K (nI (anyn S i)) (nI i) m3 := by
        intro m3 v hv R
        have g : m3.1 45 i = nI v := by
          rw [R.g9 hi4, us_1, if_pos ⟨rfl, rfl⟩]
        rw [of_s' S i v hv] at R
        unfold j_Model_ask_L183
        rw [nI_clamp (by omega), g, show (0 : Int32) = nI 0 from rfl, pz_le (by omega) (by omega)]
        have as := anyn_s S i
        rcases anyn_2 S i with e | e
        · rw [e]
          rw [e] at as
          refine ⟨fun z => absurd rfl z, fun _ => ⟨pz_in hi4 (by omega), fun h => ?_, fun h => ?_⟩⟩
          · refine nx m3 _ R ?_
            rw [as, if_pos ⟨rfl, by omega⟩]
          · refine nx m3 _ R ?_
            rw [as, if_neg (by omega)]
            rfl
        · rw [e]
          rw [e] at as
          refine ⟨fun _ => nx m3 _ R ?_, fun z => absurd z (by decide)⟩
          rw [as, if_neg (by omega)]
          rfl
      have f79 : ∀ m3 v, v = (if bb (¬ (jd S i false).2.2.2 = 0 ∧ ¬ frt S i) = true then 16 else 0) → Rr m3 (us (us (ofS S i) 9 i 0) 10 i 0) m0 → j_Model_ask_L79 (nI t) (nI rb) (j_Model_ask_L15 (nI t) (nI rb) K (n + 1)) K (nI (anyn S i)) (nI i) (nI v) (nI i) m3 := by
        intro m3 v hv R
        have eop : op_ S i = tk_ S i + v := by unfold op_; rw [if_neg (fun z => hw z), ← hv]
        unfold j_Model_ask_L79
        rw [nI_clamp (by omega), pz_34, nI_clamp (by omega)]
        refine ⟨pz_in hi4 (by omega), R.t9 hi4 (fun m4 R => ⟨pz_in (by omega) (by omega), fun y hy => ?_⟩)⟩
        have gc : m4.1 36 (34 * i + t) = nI (S.1 1 (34 * i + t)) := by
          rw [R.g1 hi4 h34, fr v 1 (by omega) (by omega)]
        rw [gc] at hy
        subst hy
        have ec : cf S i t = S.1 1 (34 * i + t) := cf_at h34
        have none : (S.1 15 0 = 1 ∨ ¬ S.1 6 i = 0 ∨ lft S = 0) → j_Model_ask_L183 (nI t) (nI rb) (j_Model_ask_L15 (nI t) (nI rb) K (n + 1)) K (nI (anyn S i)) (nI i) m4 := by
          intro h
          refine f183 m4 v ?_ R
          have e : tk_ S i = 0 := if_pos h
          omega
        rw [pz_0 (by omega)]
        refine ⟨fun h => none (Or.inl (by omega)), fun h0 => ?_⟩
        refine w_left R (by rw [fr v 20 (by omega) (by omega), fr v 17 (by omega) (by omega)]; exact H.2.2.2.2.2.2.1) (by rw [fr v 20 (by omega) (by omega), fr v 25 (by omega) (by omega)]; exact H.2.2.2.2.2.2.2) ?_
        rw [lft_c2 (fr v 17 (by omega) (by omega)) (fr v 20 (by omega) (by omega)), show (1 : Int32) = nI 1 from rfl, pz_lt (by omega) (by omega)]
        refine ⟨fun h => none (Or.inr (Or.inr (by omega))), fun hl => ⟨pz_in hi4 (by omega), ?_⟩⟩
        rw [R.g6 hi4, fr v 6 (by omega) (by omega), pz_0 (by omega)]
        refine ⟨fun h => none (Or.inr (Or.inl h)), fun h6 => ⟨pz_in hi4 (by omega), ?_⟩⟩
        have g45 : m4.1 45 i = nI v := by
          rw [R.g9 hi4, us_1, if_pos ⟨rfl, rfl⟩]
        rw [g45]
        have etk : tk_ S i = ((if 2 ≤ S.1 1 (34 * i + t) then 4 else 0) + (if 3 ≤ S.1 1 (34 * i + t) ∧ S.1 17 0 < 4 then 8 else 0)) + (if i = (S.1 14 0 + 1) % 4 ∧ bb (∃ lo, hr S i lo) = true then 2 else 0) := by
          unfold tk_
          rw [if_neg (by omega), ht, ec]
        have f180 : ∀ m5 a b, Rr m5 (us (us (us (ofS S i) 9 i 0) 10 i 0) 9 i v) m0 → a + b = tk_ S i → j_Model_ask_L180 (nI t) (nI rb) (j_Model_ask_L15 (nI t) (nI rb) K (n + 1)) K (nI (anyn S i)) (nI i) (nI b) (nI a) (nI v) (nI i) m5 := by
          intro m5 a b R hab
          unfold j_Model_ask_L180
          rw [nI_add, nI_add, nI_clamp (by omega)]
          refine ⟨pz_in hi4 (by omega), R.t9 hi4 (fun m6 R => ?_)⟩
          rw [us_us] at R
          exact f183 m6 _ (by omega) R
        have f155 : ∀ a b, a = (if 2 ≤ S.1 1 (34 * i + t) then 4 else 0) → b = (if 3 ≤ S.1 1 (34 * i + t) ∧ S.1 17 0 < 4 then 8 else 0) → j_Model_ask_L155 (nI t) (nI rb) (j_Model_ask_L15 (nI t) (nI rb) K (n + 1)) K (nI (anyn S i)) (nI i) (nI b) (nI a) (nI v) (nI i) m4 := by
          intro a b ha hb
          rw [← ha, ← hb] at etk
          unfold j_Model_ask_L155
          rw [R.g14, fr v 14 (by omega) (by omega), nI_1, pz_rem4 (by omega), pz_eq (by omega) (by omega), nI_add]
          refine ⟨fun h => ?_, fun h => ?_⟩
          · refine f180 m4 (a + b) 0 R ?_
            rw [etk, if_neg (fun z => h z.1)]
          · refine w_runOptions R ((Bt.u (a := 9) (i := i) (v := v) (by show v ≤ 31; rw [hv]; split <;> omega))) hi4 (by rw [til_c (fr v 21 (by omega) (by omega))]; exact ht) h34 ?_
            refine f180 m4 (a + b) _ R ?_
            rw [etk]
            have hx : (∃ lo, hr (us (us (us (ofS S i) 9 i 0) 10 i 0) 9 i v) i lo) = ∃ lo, hr S i lo := by
              simp only [hr_c (fr v 1 (by omega) (by omega)) (fr v 21 (by omega) (by omega))]
            rw [hx]
            by_cases q : bb (∃ lo, hr S i lo) = true
            · rw [if_pos q, if_pos ⟨h, q⟩]
            · rw [if_neg q, if_neg (fun z => q z.2)]
        have f135 : ∀ a, a = (if 2 ≤ S.1 1 (34 * i + t) then 4 else 0) → j_Model_ask_L135 (nI t) (nI rb) (j_Model_ask_L15 (nI t) (nI rb) K (n + 1)) K (nI (anyn S i)) (nI i) (nI (S.1 1 (34 * i + t))) (nI a) (nI v) (nI i) m4 := by
          intro a ha
          unfold j_Model_ask_L135
          rw [R.g17, fr v 17 (by omega) (by omega), show (3 : Int32) = nI 3 from rfl, show (4 : Int32) = nI 4 from rfl, pz_lt (by omega) (by omega), pz_le (by omega) (by omega)]
          refine ⟨fun h => f155 a 0 ha ?_, fun h => ⟨fun h2 => f155 a 0 ha ?_, fun h2 => f155 a 8 ha ?_⟩⟩
          · rw [if_neg (by omega)]
          · rw [if_neg (by omega)]
          · rw [if_pos (by omega)]
        rw [show (2 : Int32) = nI 2 from rfl, pz_lt (by omega) (by omega)]
        refine ⟨fun h => f135 0 ?_, fun h => f135 4 ?_⟩
        · rw [if_neg (by omega)]
        · rw [if_pos (by omega)]
      have jr := J.2.1 (us (us (ofS S i) 9 i 0) 10 i 0) i false m2 m0 (fun r9 m8 => ((r9 = 0 → (j_Model_ask_L78 (nI t) (nI rb) (j_Model_ask_L15 (nI t) (nI rb) K (n + 1)) K (nI (anyn S i)) (nI i) (nI i) m8)) ∧ (¬ r9 = 0 → (j_Model_isFuriten (nI i) m8 (fun r11 m10 => ((¬ r11 = 0 → (j_Model_ask_L78 (nI t) (nI rb) (j_Model_ask_L15 (nI t) (nI rb) K (n + 1)) K (nI (anyn S i)) (nI i) (nI i) m10)) ∧ (r11 = 0 → (j_Model_ask_L79 (nI t) (nI rb) (j_Model_ask_L15 (nI t) (nI rb) K (n + 1)) K (nI (anyn S i)) (nI i) 16 (nI i) m10)))))))) R (Ht.j hi4)
      rw [til_c (fr2 21 (by omega) (by omega)), ht, fr2 15 (by omega) (by omega), h15] at jr
      refine jr (fun m3 R _ => ?_)
      rw [jd_c ej]
      unfold yb
      by_cases q : (jd S i false).2.2.2 = 0
      · rw [if_pos q]
        refine ⟨fun _ => f79 m3 0 ?_ R, fun z => absurd rfl z⟩
        rw [bb_f (fun z => z.1 q), if_neg (by decide)]
      · rw [if_neg q]
        refine ⟨fun z => absurd z (by decide), fun _ => w_furR R Bt Ht.2.1 hi4 (Or.inl (Ht.2.2.2.2.1 i hi4)) (fun hf m4 R => ?_) (fun hf m4 R => ?_)⟩
        · rw [frt_c ej (fr2 5 (by omega) (by omega)) (fr2 8 (by omega) (by omega))] at hf
          refine ⟨fun _ => f79 m4 0 ?_ R, fun z => absurd z (by decide)⟩
          rw [bb_f (fun z => z.2 hf), if_neg (by decide)]
        · rw [frt_c ej (fr2 5 (by omega) (by omega)) (fr2 8 (by omega) (by omega))] at hf
          refine ⟨fun z => absurd rfl z, fun _ => f79 m4 16 ?_ R⟩
          rw [bb_t ⟨q, hf⟩, if_pos rfl]
  refine ⟨5, ?_⟩
  have := main 4 0 m (by omega) (by rw [of_0]; exact R)
  rw [show anyn S 0 = 0 from by unfold anyn; rw [bb_t (fun p hp => by omega), if_pos rfl]] at this
  exact this
