/-! THE SAME BY THE REFERENCE -/
theorem w_happened {p : Nat} {sd : Bool} {m m0 : zm} {S : zS} {K : Int64 → zm → Prop} (R : Rr m S m0) (B : Bd S) (M : Mk S) (hp : p < 4) (g32 : m.1 33 32 = nI p) (g34 : m.1 33 34 = bI sd) (g35 : m.1 33 35 = bI (!sd && S.1 15 0 == 1)) (hl : S.1 20 0 + S.1 17 0 ≤ 122) (he : S.1 25 0 = S.1 20 0) (h24 : sd = true → S.1 24 0 = S.1 18 0) (k : K (lY (hb_ S p sd)) m) : j_Model_happened m K := by
  have b4 := B.b4 p
  have b6 := B.b6 p
  have b7 := B.b7 p
  have b12 := B.b12 0
  have b15 := B.b15 0
  have b16 := B.b16 0
  have b24 := B.b24 0
  have hlf : lft S ≤ 122 := by unfold lft; omega
  have k : K (lY (fun j => (((((((((one_ (S.1 6 p == 1) 0 j || one_ (S.1 6 p == 2) 1 j) || one_ (S.1 7 p == 1) 2 j) || one_ (sd && bb (cls S p)) 3 j) || one_ (sd && S.1 24 0 == 1) 4 j) || one_ (!sd && S.1 15 0 == 1) 5 j) || one_ (sd && S.1 24 0 == 0 && lft S == 0) 6 j) || one_ (!sd && !(S.1 15 0 == 1) && lft S == 0) 7 j) || one_ (sd && S.1 4 p == 0 && S.1 16 0 == 0 && p == S.1 12 0) 40 j) || one_ (sd && S.1 4 p == 0 && S.1 16 0 == 0 && !(p == S.1 12 0)) 41 j))) m := by
    refine Eq.mp (congrArg (fun z => K z m) (lY_c ?_)) k
    have e15 : (!(S.1 15 0 == 1)) = (S.1 15 0 == 0) := by
      rcases (show S.1 15 0 = 0 ∨ S.1 15 0 = 1 by omega) with e | e <;> rw [e] <;> rfl
    rw [e15]
    cases sd
    · refine ix42 ?_ ?_ ?_ ?_ ?_ ?_ ?_ ?_ ?_ ?_ ?_ ?_ ?_ ?_ ?_ ?_ ?_ ?_ ?_ ?_ ?_ ?_ ?_ ?_ ?_ ?_ ?_ ?_ ?_ ?_ ?_ ?_ ?_ ?_ ?_ ?_ ?_ ?_ ?_ ?_ ?_ ?_ <;> simp [one_, hb_]
    · rw [h24 rfl]
      refine ix42 ?_ ?_ ?_ ?_ ?_ ?_ ?_ ?_ ?_ ?_ ?_ ?_ ?_ ?_ ?_ ?_ ?_ ?_ ?_ ?_ ?_ ?_ ?_ ?_ ?_ ?_ ?_ ?_ ?_ ?_ ?_ ?_ ?_ ?_ ?_ ?_ ?_ ?_ ?_ ?_ ?_ ?_ <;> simp [one_, hb_]
  have l263 : ∀ d, d = (sd && S.1 4 p == 0 && S.1 16 0 == 0 && !(p == S.1 12 0)) → ∀ F, K (lY (fun j => F j || one_ (sd && S.1 4 p == 0 && S.1 16 0 == 0 && !(p == S.1 12 0)) 41 j)) m → j_Model_happened_L263 K (bI d) (lY F) m := by
    intro d hd F k
    unfold j_Model_happened_L263
    rw [hd]
    refine w_bit (y := 41) (by omega) ?_
    rw [lY_or]; exact k
  have l216 : ∀ d, d = (sd && S.1 4 p == 0 && S.1 16 0 == 0) → ∀ F, K (lY (fun j => (F j || one_ (sd && S.1 4 p == 0 && S.1 16 0 == 0 && p == S.1 12 0) 40 j) || one_ (sd && S.1 4 p == 0 && S.1 16 0 == 0 && !(p == S.1 12 0)) 41 j)) m → j_Model_happened_L216 K (nI p) (lY F) (bI d) m := by
    intro d hd F k
    have l238 : ∀ e, e = (sd && S.1 4 p == 0 && S.1 16 0 == 0 && p == S.1 12 0) → j_Model_happened_L238 K (nI p) (bI d) (bI e) (lY F) m := by
      intro e he
      unfold j_Model_happened_L238
      rw [he]
      refine w_bit (y := 40) (by omega) ?_
      rw [lY_or, bI_0, R.g12, pz_eq (by omega) (by omega)]
      refine ⟨fun h => l263 false ?_ _ k, fun h => ⟨fun h2 => l263 false ?_ _ k, fun h2 => l263 true ?_ _ k⟩⟩
      · rw [← hd, h]; rfl
      · simp [h2]
      · rw [← hd, ts_nf h]; simp [h2]
    unfold j_Model_happened_L216
    rw [bI_0, R.g12, pz_eq (by omega) (by omega)]
    refine ⟨fun h => l238 false ?_, fun h => ⟨fun h2 => l238 false ?_, fun h2 => l238 true ?_⟩⟩
    · rw [← hd, h]; rfl
    · simp [h2]
    · rw [← hd, ts_nf h]; simp [h2]
  have l181 : ∀ d, d = (!sd && !(S.1 15 0 == 1) && lft S == 0) → ∀ F, K (lY (fun j => ((F j || one_ (!sd && !(S.1 15 0 == 1) && lft S == 0) 7 j) || one_ (sd && S.1 4 p == 0 && S.1 16 0 == 0 && p == S.1 12 0) 40 j) || one_ (sd && S.1 4 p == 0 && S.1 16 0 == 0 && !(p == S.1 12 0)) 41 j)) m → j_Model_happened_L181 K (nI p) (bI d) (lY F) m := by
    intro d hd F k
    unfold j_Model_happened_L181
    rw [hd]
    refine w_bit (y := 7) (by omega) (fun y25 hy25 => ?_)
    rw [hy25, lY_or, g34, bI_0, nI_clamp (by omega), R.g4 hp, pz_0 (by omega), R.g16, pz_0 (by omega)]
    refine ⟨fun h => l216 false ?_ _ k, fun h => ⟨pz_in hp (by omega), fun h2 => l216 false ?_ _ k, fun h2 => ⟨fun h3 => l216 false ?_ _ k, fun h3 => l216 true ?_ _ k⟩⟩⟩
    · rw [h]; rfl
    · simp [h2]
    · simp [h3]
    · rw [ts_nf h]; simp [h2, h3]
  have l148 : ∀ d, d = (sd && S.1 24 0 == 0 && lft S == 0) → ∀ F, K (lY (fun j => (((F j || one_ (sd && S.1 24 0 == 0 && lft S == 0) 6 j) || one_ (!sd && !(S.1 15 0 == 1) && lft S == 0) 7 j) || one_ (sd && S.1 4 p == 0 && S.1 16 0 == 0 && p == S.1 12 0) 40 j) || one_ (sd && S.1 4 p == 0 && S.1 16 0 == 0 && !(p == S.1 12 0)) 41 j)) m → j_Model_happened_L148 K (nI p) (bI d) (lY F) m := by
    intro d hd F k
    unfold j_Model_happened_L148
    rw [hd]
    refine w_bit (y := 6) (by omega) ?_
    rw [lY_or, g34, g35, bI_0, bI_0]
    refine ⟨fun h => l181 false ?_ _ k, fun h => ⟨fun h2 => l181 false ?_ _ k, fun h2 => w_left R hl he ?_⟩⟩
    · rw [ts_nf h]; rfl
    · have := ts_nf h2
      rw [h, Bool.not_false, Bool.true_and] at this
      rw [this]; simp
    · rw [pz_0 (by omega)]
      rw [h, Bool.not_false, Bool.true_and] at h2
      refine ⟨fun h3 => l181 false ?_ _ k, fun h3 => l181 true ?_ _ k⟩
      · simp [h3]
      · rw [h, h2]; simp [h3]
  have l104 : ∀ d, d = (sd && S.1 24 0 == 1) → ∀ F, K (lY (fun j => (((((F j || one_ (sd && S.1 24 0 == 1) 4 j) || one_ (!sd && S.1 15 0 == 1) 5 j) || one_ (sd && S.1 24 0 == 0 && lft S == 0) 6 j) || one_ (!sd && !(S.1 15 0 == 1) && lft S == 0) 7 j) || one_ (sd && S.1 4 p == 0 && S.1 16 0 == 0 && p == S.1 12 0) 40 j) || one_ (sd && S.1 4 p == 0 && S.1 16 0 == 0 && !(p == S.1 12 0)) 41 j)) m → j_Model_happened_L104 K (nI p) (bI d) (lY F) m := by
    intro d hd F k
    unfold j_Model_happened_L104
    rw [hd]
    refine w_bit (y := 4) (by omega) ?_
    rw [g35]
    refine w_bit (y := 5) (by omega) (fun y16 hy16 => ?_)
    rw [hy16, lY_or, lY_or, g34, bI_0, R.g24, pz_0 (by omega)]
    refine ⟨fun h => l148 false ?_ _ k, fun h => ⟨fun h2 => l148 false ?_ _ k, fun h2 => w_left R hl he ?_⟩⟩
    · rw [h]; rfl
    · simp [h2]
    · rw [pz_0 (by omega)]
      refine ⟨fun h3 => l148 false ?_ _ k, fun h3 => l148 true ?_ _ k⟩
      · simp [h3]
      · rw [ts_nf h]; simp [h2, h3]
  have l79 : ∀ d, d = (sd && bb (cls S p)) → ∀ F, K (lY (fun j => ((((((F j || one_ (sd && bb (cls S p)) 3 j) || one_ (sd && S.1 24 0 == 1) 4 j) || one_ (!sd && S.1 15 0 == 1) 5 j) || one_ (sd && S.1 24 0 == 0 && lft S == 0) 6 j) || one_ (!sd && !(S.1 15 0 == 1) && lft S == 0) 7 j) || one_ (sd && S.1 4 p == 0 && S.1 16 0 == 0 && p == S.1 12 0) 40 j) || one_ (sd && S.1 4 p == 0 && S.1 16 0 == 0 && !(p == S.1 12 0)) 41 j)) m → j_Model_happened_L79 K (nI p) (bI d) (lY F) m := by
    intro d hd F k
    unfold j_Model_happened_L79
    rw [hd]
    refine w_bit (y := 3) (by omega) ?_
    rw [lY_or, g34, bI_0, R.g24, pz_0 (by omega)]
    refine ⟨fun h => l104 false ?_ _ k, fun h => ⟨fun h2 => l104 false ?_ _ k, fun h2 => l104 true ?_ _ k⟩⟩
    · rw [h]; rfl
    · simp [h2]
    · rw [ts_nf h]
      have : S.1 24 0 = 1 := by omega
      simp [this]
  unfold j_Model_happened
  intro y1 hy1
  rw [g32] at hy1
  subst hy1
  rw [nI_clamp (by omega), R.g6 hp]
  refine ⟨pz_in hp (by omega), ?_⟩
  refine fl_n (X := fun x => j_Model_happened_L21 K (nI p) x m) (S.1 6 p == 1) ?_ ?_
  · rw [beq_p, show (nI (S.1 6 p) = 1) = (S.1 6 p = 1) from pz_eq (b := 1) (by omega) (by omega)]
  unfold j_Model_happened_L21
  refine w_bit (y := 0) (by omega) ⟨pz_in hp (by omega), ?_⟩
  rw [nI_clamp (by omega), R.g6 hp]
  refine fl_n (X := fun x => j_Model_happened_L41 K (nI p) x (lY (one_ (S.1 6 p == 1) 0)) m) (S.1 6 p == 2) ?_ ?_
  · rw [beq_p, show (nI (S.1 6 p) = 2) = (S.1 6 p = 2) from pz_eq (b := 2) (by omega) (by omega)]
  unfold j_Model_happened_L41
  refine w_bit (y := 1) (by omega) ⟨pz_in hp (by omega), ?_⟩
  rw [nI_clamp (by omega), R.g7 hp, bI_nb b7]
  refine w_bit (y := 2) (by omega) ?_
  rw [lY_or, lY_or, g34, bI_0]
  refine ⟨fun h => l79 false (by rw [h]; rfl) _ k, fun h => w_closedR R B M hp (fun z => ⟨fun q => absurd q (by decide), fun _ => l79 true ?_ _ k⟩) (fun z => ⟨fun _ => l79 false ?_ _ k, fun q => absurd rfl q⟩)⟩
  · rw [ts_nf h, bb_t z]; rfl
  · rw [bb_f z, Bool.and_false]
/-! of all tiles -/
def sfx (al : Nat → Nat) (i s : Nat) : Prop := ∃ k, k < i ∧ k / 9 = s ∧ 0 < al k
noncomputable def sv3 (al : Nat → Nat) (i : Nat) : Nat := (if bb (sfx al i 0) = true then 1 else 0) + (if bb (sfx al i 1) = true then 2 else 0) + (if bb (sfx al i 2) = true then 4 else 0)
theorem or_s : ∀ s, s < 3 → ∀ v, v < 8 → nI v ||| (1 <<< (nI s &&& 31)) = nI (v ||| 2 ^ s) := by decide +kernel
theorem sv_s {al : Nat → Nat} {i : Nat} (hi : i < 27) (h : 0 < al i) : sv3 al i ||| 2 ^ (i / 9) = sv3 al (i + 1) := by
  have e : ∀ s, bb (sfx al (i + 1) s) = (bb (sfx al i s) || decide (i / 9 = s)) := by
    intro s
    by_cases q : i / 9 = s
    · rw [decide_eq_true q, Bool.or_true]
      exact bb_t ⟨i, by omega, q, h⟩
    · rw [decide_eq_false q, Bool.or_false]
      refine bb_eq ⟨fun ⟨k, k1, k2, k3⟩ => ⟨k, ?_, k2, k3⟩, fun ⟨k, k1, k2, k3⟩ => ⟨k, by omega, k2, k3⟩⟩
      refine Classical.byContradiction (fun z => q ?_)
      rw [← k2]; congr 1; omega
  unfold sv3
  rw [e, e, e]
  rcases (show i / 9 = 0 ∨ i / 9 = 1 ∨ i / 9 = 2 by omega) with q | q | q <;> rw [q] <;> cases bb (sfx al i 0) <;> cases bb (sfx al i 1) <;> cases bb (sfx al i 2) <;> rfl
theorem sv_n {al : Nat → Nat} {i : Nat} (h : al i = 0) : sv3 al i = sv3 al (i + 1) := by
  have e : ∀ s, bb (sfx al (i + 1) s) = bb (sfx al i s) := by
    intro s
    refine bb_eq ⟨fun ⟨k, k1, k2, k3⟩ => ⟨k, ?_, k2, k3⟩, fun ⟨k, k1, k2, k3⟩ => ⟨k, by omega, k2, k3⟩⟩
    by_cases q : k = i
    · rw [q] at k3; omega
    · omega
  unfold sv3
  rw [e, e, e]
theorem sfx_su {al : Nat → Nat} {s : Nat} (hs : s < 3) : bb (sfx al 27 s) = su_ al s := by
  cases q : su_ al s
  · rw [su_f] at q
    refine bb_f (fun ⟨k, k1, k2, k3⟩ => ?_)
    have := q (k - 9 * s) (by omega)
    rw [show 9 * s + (k - 9 * s) = k by omega] at this
    omega
  · refine bb_t (Classical.byContradiction (fun z => ?_))
    have : su_ al s = false := by
      rw [su_f]
      intro j hj
      refine Classical.byContradiction (fun y => z ⟨9 * s + j, by omega, by omega, by omega⟩)
    rw [this] at q; cases q
theorem sv_27 {al : Nat → Nat} : sv3 al 27 = (if su_ al 0 = true then 1 else 0) + (if su_ al 1 = true then 2 else 0) + (if su_ al 2 = true then 4 else 0) := by
  unfold sv3
  rw [sfx_su (by omega), sfx_su (by omega), sfx_su (by omega)]
theorem w_suits {al : Nat → Nat} {m : zm} {K : Int32 → zm → Prop} (ga : ∀ k, k < 34 → m.1 51 k = nI (al k)) (h4 : al4 al) (k : K (nI (sv3 al 27)) m) : j_Model_suits m K := by
  have l8 : ∀ i, sv3 al i < 8 := fun i => by unfold sv3; split <;> split <;> split <;> omega
  have main : ∀ n i, i + n = 27 → j_Model_suits_L4 K (n + 1) (nI (sv3 al i)) (nI i) m := by
    intro n
    induction n with
    | zero =>
      intro i hi
      have e : i = 27 := by omega
      subst e
      rw [j_Model_suits_L4, show ((27 : Int32) ≤ nI 27) = True from propext ⟨fun _ => trivial, fun _ => by decide⟩]
      exact ⟨fun _ => k, fun z => absurd trivial z⟩
    | succ n ih =>
      intro i hi
      have a4 := h4 i
      rw [j_Model_suits_L4, show ((27 : Int32) ≤ nI i) = (27 ≤ i) from pz_le (a := 27) (by omega) (by omega), nI_clamp (by omega), ga i (by omega), show (nI (al i) ≤ (0 : Int32)) = (al i ≤ 0) from pz_le (b := 0) (by omega) (by omega), pz_div9 (by omega), or_s (i / 9) (by omega) _ (l8 i)]
      refine ⟨fun z => by omega, fun _ => ⟨pz_in (by omega) (by omega), fun h y hy => ?_, fun h y hy => ?_⟩⟩
      · rw [hy, nI_1, sv_n (by omega)]
        exact ih (i + 1) (by omega)
      · rw [hy, nI_1, sv_s (by omega) (by omega)]
        exact ih (i + 1) (by omega)
  refine ⟨28, ?_⟩
  have := main 27 0 (by omega)
  rw [show sv3 al 0 = 0 from by
    have e : ∀ s, bb (sfx al 0 s) = false := fun s => bb_f (fun ⟨k, k1, _⟩ => by omega)
    unfold sv3
    rw [e, e, e]; rfl] at this
  exact this
theorem w_nineR {al : Nat → Nat} {p w : Nat} {m : zm} {K : Int32 → zm → Prop} (ga : ∀ k, k < 34 → m.1 51 k = nI (al k)) (h4 : al4 al) (g32 : m.1 33 32 = nI p) (hp : p < 4) (g37 : m.1 37 p = nI w) (hw : w ≤ 4) (h1 : nsu al 3 = 1) (hT : w = 0 ∧ nin_ al (lsu al 3) → K 1 m) (hF : ¬ (w = 0 ∧ nin_ al (lsu al 3)) → K 0 m) : j_Model_nineGates m K := by
  obtain ⟨ls3, lsu3⟩ := lsu_3 h1
  have a0 := h4 0
  have a8 := h4 8
  have a9 := h4 9
  have a17 := h4 17
  have emp : ∀ s j, s < 3 → j < 9 → 0 < al (9 * s + j) → s = lsu al 3 := by
    intro s j hs hj h
    refine lsu3 s hs ?_
    cases q : su_ al s
    · rw [su_f] at q
      have := q j hj
      omega
    · rfl
  have go : ∀ s, s < 3 → (nin_ al s ↔ nin_ al (lsu al 3)) → ∀ x, ((x = 1 ∧ w = 0) ∨ (x = 0 ∧ ¬ w = 0)) → j_Model_nineGates_L64 K x (nI (9 * s)) m := by
    intro s hs hn x hx
    have main : ∀ n r x, r + n = 9 → ((x = 1 ∧ w = 0 ∧ ∀ r', r' < r → (if r' = 0 ∨ r' = 8 then 3 else 1) ≤ al (9 * s + r')) ∨ (x = 0 ∧ ¬ (w = 0 ∧ nin_ al s))) → j_Model_nineGates_L67 K (n + 1) x (nI (9 * s)) (nI r) m := by
      intro n
      induction n with
      | zero =>
        intro r x hr h
        rw [j_Model_nineGates_L67, show ((9 : Int32) ≤ nI r) = (9 ≤ r) from pz_le (a := 9) (by omega) (by omega)]
        refine ⟨fun _ => ?_, fun z => absurd (by omega) z⟩
        rcases h with ⟨e, h0, h⟩ | ⟨e, h⟩ <;> subst e
        · exact ⟨Or.inr rfl, hT ⟨h0, hn.mp (fun r' hr' => h r' (by omega))⟩⟩
        · exact ⟨Or.inl rfl, hF (fun z => h ⟨z.1, hn.mpr z.2⟩)⟩
      | succ n ih =>
        intro r x hr h
        have a4 := h4 (9 * s + r)
        have nx : ∀ x, ((x = 1 ∧ w = 0 ∧ ∀ r', r' < r + 1 → (if r' = 0 ∨ r' = 8 then 3 else 1) ≤ al (9 * s + r')) ∨ (x = 0 ∧ ¬ (w = 0 ∧ nin_ al s))) → j_Model_nineGates_L108 (j_Model_nineGates_L67 K (n + 1)) K (nI (9 * s)) (nI r) x m := by
          intro x h y hy
          rw [hy, nI_1]
          exact ih (r + 1) x (by omega) h
        rw [j_Model_nineGates_L67, show ((9 : Int32) ≤ nI r) = (9 ≤ r) from pz_le (a := 9) (by omega) (by omega), nI_add, nI_clamp (by omega), ga _ (by omega), pz_0 (by omega), show (nI r = 8) = (r = 8) from pz_eq (b := 8) (by omega) (by omega)]
        refine ⟨fun z => by omega, fun _ => ?_⟩
        rcases h with ⟨e, h0, h⟩ | ⟨e, h⟩ <;> subst e
        · have l100 : ∀ t, t = (if r = 0 ∨ r = 8 then 3 else 1) → j_Model_nineGates_L100 (j_Model_nineGates_L67 K (n + 1)) K (nI (9 * s)) (nI r) (nI t) (nI (al (9 * s + r))) m := by
            intro t ht
            have t3 : t ≤ 3 := by rw [ht]; split <;> omega
            unfold j_Model_nineGates_L100
            rw [pz_lt (by omega) (by omega)]
            refine ⟨fun q => nx 0 (Or.inr ⟨rfl, fun z => ?_⟩), fun q => nx 1 (Or.inl ⟨rfl, h0, fun r' hr' => ?_⟩)⟩
            · have := z.2 r (by omega)
              rw [← ht] at this
              omega
            · by_cases e : r' = r
              · rw [e, ← ht]; omega
              · exact h r' (by omega)
          refine ⟨fun z => absurd z (by decide), fun _ => ⟨pz_in (by omega) (by omega), fun z => l100 3 ?_, fun z => ⟨fun z2 => l100 1 ?_, fun z2 => l100 3 ?_⟩⟩⟩
          · rw [if_pos (by omega)]
          · rw [if_neg (by omega)]
          · rw [if_pos (by omega)]
        · exact ⟨fun _ => nx 0 (Or.inr ⟨rfl, h⟩), fun z => absurd rfl z⟩
    refine ⟨10, main 9 0 x (by omega) ?_⟩
    rcases hx with ⟨e, h⟩ | ⟨e, h⟩
    · exact Or.inl ⟨e, h, fun r' hr' => by omega⟩
    · exact Or.inr ⟨e, fun z => h z.1⟩
  have same : ∀ s, s < 3 → (nin_ al (lsu al 3) → s = lsu al 3) → (nin_ al s ↔ nin_ al (lsu al 3)) := by
    intro s hs h
    refine ⟨fun z => ?_, fun z => by rw [h z]; exact z⟩
    have h0 := z 0 (by omega)
    rw [if_pos (by omega)] at h0
    rw [← emp s 0 hs (by omega) (by omega)]
    exact z
  have l17 : ∀ x, ((x = 1 ∧ w = 0) ∨ (x = 0 ∧ ¬ w = 0)) → j_Model_nineGates_L17 K x m := by
    intro x hx
    unfold j_Model_nineGates_L17
    rw [show Int32.toNatClampNeg 0 = 0 from rfl, show Int32.toNatClampNeg 8 = 8 from rfl, show Int32.toNatClampNeg 9 = 9 from rfl, show Int32.toNatClampNeg 17 = 17 from rfl, ga 0 (by omega), ga 8 (by omega), ga 9 (by omega), ga 17 (by omega), nI_add, nI_add, show (nI (al 0 + al 8) ≤ (0 : Int32)) = (al 0 + al 8 ≤ 0) from pz_le (b := 0) (by omega) (by omega), show (nI (al 9 + al 17) ≤ (0 : Int32)) = (al 9 + al 17 ≤ 0) from pz_le (b := 0) (by omega) (by omega)]
    have first : ∀ z : nin_ al (lsu al 3), 3 ≤ al (9 * lsu al 3) := fun z => by
      have := z 0 (by omega)
      rw [if_pos (by omega)] at this
      exact this
    refine ⟨fun q1 => ⟨fun q2 => go 2 (by omega) (same 2 (by omega) (fun z => ?_)) x hx, fun q2 => go 1 (by omega) (same 1 (by omega) (fun z => ?_)) x hx⟩, fun q1 => go 0 (by omega) (same 0 (by omega) (fun z => ?_)) x hx⟩
    · have := first z
      rcases (show lsu al 3 = 0 ∨ lsu al 3 = 1 ∨ lsu al 3 = 2 by omega) with e | e | e
      · rw [e] at this
        have : 3 ≤ al 0 := this
        omega
      · rw [e] at this
        have : 3 ≤ al 9 := this
        omega
      · exact e.symm
    · by_cases q : 0 < al 9
      · exact emp 1 0 (by omega) (by omega) q
      · exact emp 1 8 (by omega) (by omega) (by show 0 < al 17; omega)
    · by_cases q : 0 < al 0
      · exact emp 0 0 (by omega) (by omega) q
      · exact emp 0 8 (by omega) (by omega) (by show 0 < al 8; omega)
  unfold j_Model_nineGates
  rw [g32, nI_clamp (by omega), g37, pz_0 (by omega)]
  exact ⟨pz_in hp (by omega), fun h => l17 0 (Or.inr ⟨rfl, h⟩), fun h => l17 1 (Or.inl ⟨rfl, h⟩)⟩
def grn (k : Nat) : Prop := k = 19 ∨ k = 20 ∨ k = 21 ∨ k = 23 ∨ k = 25 ∨ k = 32
theorem w_ofTiles {al : Nat → Nat} {p w : Nat} {m : zm} {K : Int64 → zm → Prop} (ga : ∀ k, k < 34 → m.1 51 k = nI (al k)) (h4 : al4 al) (g32 : m.1 33 32 = nI p) (hp : p < 4) (g37 : m.1 37 p = nI w) (hw : w ≤ 4) (k : K (lY (tb_ al w)) m) : j_Model_ofTiles m K := by
  rw [← tF_eq] at k
  have hon : (csum (fun k => if 27 ≤ k then al k else 0) 34 = 0) = ¬ hon_ al := by
    refine propext (csum_z.trans ⟨fun h ⟨k, k1, k2, k3⟩ => ?_, fun h j hj => ?_⟩)
    · have := h k k2
      rw [if_pos k1] at this; omega
    · split
      · refine Classical.byContradiction (fun z => h ⟨j, by assumption, hj, by omega⟩)
      · rfl
  have inn : (csum (fun k => if out_ k = true then 0 else al k) 34 = 0) = (∀ k, k < 34 → out_ k = false → al k = 0) := by
    refine propext (csum_z.trans ⟨fun h k hk ho => ?_, fun h j hj => ?_⟩)
    · have := h k hk
      rw [if_neg (by rw [ho]; decide)] at this; exact this
    · split
      · rfl
      · exact h j hj (ts_nt (by assumption))
  have ou : (csum (fun k => if out_ k = true then al k else 0) 34 = 0) = (∀ k, k < 34 → out_ k = true → al k = 0) := by
    refine propext (csum_z.trans ⟨fun h k hk ho => ?_, fun h j hj => ?_⟩)
    · have := h k hk
      rw [if_pos ho] at this; exact this
    · split
      · exact h j hj (by assumption)
      · rfl
  have le : ∀ (c : Nat → Nat), (∀ k, c k ≤ 4) → ∀ n, csum c n ≤ 4 * n := by
    intro c hc n
    induction n with
    | zero => exact Nat.le_refl _
    | succ n ih =>
      have := hc n
      rw [csum]; omega
  have lH := le (fun k => if 27 ≤ k then al k else 0) (fun k => by have := h4 k; show (if 27 ≤ k then al k else 0) ≤ 4; split <;> omega)
  have lI := le (fun k => if out_ k = true then 0 else al k) (fun k => by have := h4 k; show (if out_ k = true then 0 else al k) ≤ 4; split <;> omega)
  have lO := le (fun k => if out_ k = true then al k else 0) (fun k => by have := h4 k; show (if out_ k = true then al k else 0) ≤ 4; split <;> omega)
  have lH34 := lH 34
  have lI34 := lI 34
  have lO34 := lO 34
  have hg : bb (∀ k, k < 34 → al k = 0 ∨ grn k) = bb (∀ k, k < 34 → ¬ (k = 19 ∨ k = 20 ∨ k = 21 ∨ k = 23 ∨ k = 25 ∨ k = 32) → al k = 0) := bb_eq ⟨fun h k hk hn => by
      rcases h k hk with z | z
      · exact z
      · exact absurd z hn, fun h k hk => by
      by_cases q : grn k
      · exact Or.inr q
      · exact Or.inl (h k hk q)⟩
  have h38 : bb (∀ k, k < 34 → (out_ k = false ∨ 27 ≤ k) → al k = 0) = (bb (∀ k, k < 34 → out_ k = false → al k = 0) && !bb (hon_ al)) := by
    refine Bool.eq_iff_iff.mpr ?_
    rw [bb_iff, Bool.and_eq_true, bb_iff, Bool.not_eq_true']
    refine ⟨fun h => ⟨fun k hk ho => h k hk (Or.inl ho), bb_f (fun ⟨k, k1, k2, k3⟩ => by have := h k k2 (Or.inr k1); omega)⟩, fun ⟨h1, h2⟩ k hk ho => ?_⟩
    rcases ho with ho | ho
    · exact h1 k hk ho
    · refine Classical.byContradiction (fun z => ?_)
      rw [bb_t ⟨k, ho, hk, by omega⟩] at h2
      cases h2
  have fin : j_Model_suits m (fun r2 m1 => ((r2 = 1 → (j_Model_ofTiles_L190 K (nI (csum (fun k => if 27 ≤ k then al k else 0) 34)) (nI (csum (fun k => if out_ k = true then 0 else al k) 34)) (nI (csum (fun k => if out_ k = true then al k else 0) 34)) (bI (bb (∀ k, k < 34 → al k = 0 ∨ grn k))) r2 m1)) ∧ (¬ r2 = 1 → ((r2 = 2 → (j_Model_ofTiles_L190 K (nI (csum (fun k => if 27 ≤ k then al k else 0) 34)) (nI (csum (fun k => if out_ k = true then 0 else al k) 34)) (nI (csum (fun k => if out_ k = true then al k else 0) 34)) (bI (bb (∀ k, k < 34 → al k = 0 ∨ grn k))) r2 m1)) ∧ (¬ r2 = 2 → ((¬ r2 = 4 → (j_Model_ofTiles_L195 K (nI (csum (fun k => if 27 ≤ k then al k else 0) 34)) (nI (csum (fun k => if out_ k = true then 0 else al k) 34)) (nI (csum (fun k => if out_ k = true then al k else 0) 34)) (bI (bb (∀ k, k < 34 → al k = 0 ∨ grn k))) r2 0 m1)) ∧ (r2 = 4 → (j_Model_ofTiles_L190 K (nI (csum (fun k => if 27 ≤ k then al k else 0) 34)) (nI (csum (fun k => if out_ k = true then 0 else al k) 34)) (nI (csum (fun k => if out_ k = true then al k else 0) 34)) (bI (bb (∀ k, k < 34 → al k = 0 ∨ grn k))) r2 m1)))))))) := by
    refine w_suits ga h4 ?_
    generalize hH : csum (fun k => if 27 ≤ k then al k else 0) 34 = H at *
    generalize hI : csum (fun k => if out_ k = true then 0 else al k) 34 = I at *
    generalize hO : csum (fun k => if out_ k = true then al k else 0) 34 = O at *
    have bh : bb (hon_ al) = !(H == 0) := by
      by_cases q : H = 0
      · have : ¬ hon_ al := by rw [← hon]; exact q
        rw [bb_f this]; simp [q]
      · have : hon_ al := Classical.byContradiction (fun z => q (by rw [hon]; exact z))
        rw [bb_t this]; simp [q]
    have bi : bb (∀ k, k < 34 → out_ k = false → al k = 0) = (I == 0) := by
      by_cases q : I = 0
      · rw [bb_t (by rw [← inn]; exact q)]; simp [q]
      · rw [bb_f (by rw [← inn]; exact q)]; simp [q]
    have bo : bb (∀ k, k < 34 → out_ k = true → al k = 0) = (O == 0) := by
      by_cases q : O = 0
      · rw [bb_t (by rw [← ou]; exact q)]; simp [q]
      · rw [bb_f (by rw [← ou]; exact q)]; simp [q]
    have l195 : ∀ d, d = (nsu al 3 == 1) → ((nI (sv3 al 27) = 0) = (nsu al 3 = 0)) → j_Model_ofTiles_L195 K (nI H) (nI I) (nI O) (bI (bb (∀ k, k < 34 → al k = 0 ∨ grn k))) (nI (sv3 al 27)) (bI d) m := by
      intro d hd hz
      unfold j_Model_ofTiles_L195
      rw [pz_0 (by omega)]
      refine fl_n (X := fun x => j_Model_ofTiles_L207 K (nI H) (nI I) (bI (bb (∀ k, k < 34 → al k = 0 ∨ grn k))) (nI (sv3 al 27)) (bI d) x m) (O == 0) beq_p ?_
      unfold j_Model_ofTiles_L207
      refine w_bit (y := 24) (by omega) ?_
      rw [pz_0 (by omega)]
      refine fl_n (X := fun x => j_Model_ofTiles_L222 K (nI H) (nI I) (bI (bb (∀ k, k < 34 → al k = 0 ∨ grn k))) (nI (sv3 al 27)) (bI d) x (lY (one_ (O == 0) 24)) m) (I == 0) beq_p ?_
      unfold j_Model_ofTiles_L222
      refine w_bit (y := 25) (by omega) ?_
      rw [lY_or, bI_0, show (nI H ≤ (0 : Int32)) = (H ≤ 0) from pz_le (b := 0) (by omega) (by omega)]
      have l342 : ∀ e, e = (d && H == 0 && bb (w = 0 ∧ nin_ al (lsu al 3))) → j_Model_ofTiles_L342 K (bI e) (lY (fun j => ((((((one_ (O == 0) 24 j || one_ (I == 0) 25 j) || one_ (d && !(H == 0)) 28 j) || one_ (d && H == 0) 29 j) || one_ (nsu al 3 == 0) 37 j) || one_ (I == 0 && H == 0) 38 j) || one_ (bb (∀ k, k < 34 → al k = 0 ∨ grn k)) 39 j))) m := by
        intro e he
        unfold j_Model_ofTiles_L342
        refine w_bit (y := 31) (by omega) ?_
        rw [lY_or]
        refine Eq.mp (congrArg (fun z => K z m) (lY_c (fun j hj => ?_))) k
        unfold tF
        rw [h38, ← hg, bh, bi, bo, he, hd, Bool.not_not]
        cases one_ (O == 0) 24 j <;> cases one_ (I == 0) 25 j <;> cases one_ (nsu al 3 == 1 && !(H == 0)) 28 j <;> cases one_ (nsu al 3 == 1 && H == 0) 29 j <;> cases one_ (nsu al 3 == 1 && H == 0 && bb (w = 0 ∧ nin_ al (lsu al 3))) 31 j <;> cases one_ (nsu al 3 == 0) 37 j <;> cases one_ (I == 0 && H == 0) 38 j <;> cases one_ (bb (∀ k, k < 34 → al k = 0 ∨ grn k)) 39 j <;> rfl
      have l305 : ∀ e, e = (I == 0 && H == 0) → j_Model_ofTiles_L305 K (nI H) (bI (bb (∀ k, k < 34 → al k = 0 ∨ grn k))) (bI d) (bI e) (lY (fun j => (((one_ (O == 0) 24 j || one_ (I == 0) 25 j) || one_ (d && !(H == 0)) 28 j) || one_ (d && H == 0) 29 j) || one_ (nsu al 3 == 0) 37 j)) m := by
        intro e he
        unfold j_Model_ofTiles_L305
        rw [he]
        refine w_bit (y := 38) (by omega) ?_
        refine w_bit (y := 39) (by omega) ?_
        rw [lY_or, lY_or, bI_0, pz_0 (by omega)]
        refine ⟨fun h => l342 false (by rw [h]; rfl), fun h => ⟨fun h2 => l342 false (by simp [h2]), fun h2 => ?_⟩⟩
        have h1 : nsu al 3 = 1 := by
          have := ts_nf h
          rw [hd] at this
          simpa using this
        refine w_nineR ga h4 g32 hp g37 hw h1 (fun q => ⟨fun z => absurd z (by decide), fun _ => l342 true ?_⟩) (fun q => ⟨fun _ => l342 false ?_, fun z => absurd rfl z⟩)
        · rw [bb_t q, ts_nf h]; simp [h2]
        · rw [bb_f q, Bool.and_false]
      have l264 : ∀ e, e = (d && H == 0) → j_Model_ofTiles_L264 K (nI H) (nI I) (bI (bb (∀ k, k < 34 → al k = 0 ∨ grn k))) (nI (sv3 al 27)) (bI d) (bI e) (lY (fun j => (one_ (O == 0) 24 j || one_ (I == 0) 25 j) || one_ (d && !(H == 0)) 28 j)) m := by
        intro e he
        unfold j_Model_ofTiles_L264
        rw [he]
        refine w_bit (y := 29) (by omega) (fun y19 hy19 => ?_)
        rw [hy19, lY_or]
        refine fl_n (X := fun x => j_Model_ofTiles_L285 K (nI H) (nI I) (bI (bb (∀ k, k < 34 → al k = 0 ∨ grn k))) (bI d) x (lY (fun j => ((one_ (O == 0) 24 j || one_ (I == 0) 25 j) || one_ (d && !(H == 0)) 28 j) || one_ (d && H == 0) 29 j)) m) (nsu al 3 == 0) (beq_p.trans hz.symm) ?_
        unfold j_Model_ofTiles_L285
        refine w_bit (y := 37) (by omega) ?_
        rw [lY_or, pz_0 (by omega), pz_0 (by omega)]
        exact ⟨fun h => l305 false (by simp [h]), fun h => ⟨fun h2 => l305 false (by simp [h2]), fun h2 => l305 true (by simp [h, h2])⟩⟩
      have l243 : ∀ e, e = (d && !(H == 0)) → j_Model_ofTiles_L243 K (nI H) (nI I) (bI (bb (∀ k, k < 34 → al k = 0 ∨ grn k))) (nI (sv3 al 27)) (bI d) (bI e) (lY (fun j => one_ (O == 0) 24 j || one_ (I == 0) 25 j)) m := by
        intro e he
        unfold j_Model_ofTiles_L243
        rw [he]
        refine w_bit (y := 28) (by omega) ?_
        rw [lY_or, bI_0, pz_0 (by omega)]
        exact ⟨fun h => l264 false (by rw [h]; rfl), fun h => ⟨fun h2 => l264 false (by simp [h2]), fun h2 => l264 true (by rw [ts_nf h]; simp [h2])⟩⟩
      refine ⟨fun h => l243 false (by rw [h]; rfl), fun h => ⟨fun h2 => l243 false ?_, fun h2 => l243 true ?_⟩⟩
      · have : H = 0 := by omega
        simp [this]
      · rw [ts_nf h]
        have : ¬ H = 0 := by omega
        simp [this]
    have cnt : nsu al 3 = (if su_ al 0 = true then 1 else 0) + (if su_ al 1 = true then 1 else 0) + (if su_ al 2 = true then 1 else 0) := by simp only [nsu]; omega
    have s8 : sv3 al 27 < 8 := by rw [sv_27]; split <;> split <;> split <;> omega
    have hz : (nI (sv3 al 27) = 0) = (nsu al 3 = 0) := by
      rw [pz_0 (by omega), sv_27, cnt]
      refine propext ?_
      split <;> split <;> split <;> omega
    rw [show (nI (sv3 al 27) = 1) = (sv3 al 27 = 1) from pz_eq (b := 1) (by omega) (by omega), show (nI (sv3 al 27) = 2) = (sv3 al 27 = 2) from pz_eq (b := 2) (by omega) (by omega), show (nI (sv3 al 27) = 4) = (sv3 al 27 = 4) from pz_eq (b := 4) (by omega) (by omega)]
    have one1 : (nsu al 3 = 1) ↔ (sv3 al 27 = 1 ∨ sv3 al 27 = 2 ∨ sv3 al 27 = 4) := by
      rw [sv_27, cnt]
      split <;> split <;> split <;> omega
    have yes : (sv3 al 27 = 1 ∨ sv3 al 27 = 2 ∨ sv3 al 27 = 4) → true = (nsu al 3 == 1) := fun h => by
      have := one1.mpr h
      simp [this]
    refine ⟨fun h => l195 true (yes (Or.inl h)) hz, fun h => ⟨fun h2 => l195 true (yes (Or.inr (Or.inl h2))) hz, fun h2 => ⟨fun h3 => l195 false ?_ hz, fun h3 => l195 true (yes (Or.inr (Or.inr h3))) hz⟩⟩⟩
    have : ¬ nsu al 3 = 1 := fun z => by have := one1.mp z; omega
    simp [this]
  have main : ∀ n i, i + n = 34 → j_Model_ofTiles_L12 K (n + 1) (nI (csum (fun k => if 27 ≤ k then al k else 0) i)) (nI (csum (fun k => if out_ k = true then 0 else al k) i)) (nI (csum (fun k => if out_ k = true then al k else 0) i)) (bI (bb (∀ k, k < i → al k = 0 ∨ grn k))) (nI i) m := by
    intro n
    induction n with
    | zero =>
      intro i hi
      have e : i = 34 := by omega
      subst e
      rw [j_Model_ofTiles_L12, show ((34 : Int32) ≤ nI 34) = True from propext ⟨fun _ => trivial, fun _ => by decide⟩]
      exact ⟨fun _ => fin, fun z => absurd trivial z⟩
    | succ n ih =>
      intro i hi
      have a4 := h4 i
      have hi34 : i < 34 := by omega
      have := ih (i + 1) (by omega)
      have l158 : ∀ x, x = bI (bb (∀ k, k < i + 1 → al k = 0 ∨ grn k)) → j_Model_ofTiles_L158 (j_Model_ofTiles_L12 K (n + 1)) K (nI (csum (fun k => if 27 ≤ k then al k else 0) (i + 1))) (nI (csum (fun k => if out_ k = true then 0 else al k) (i + 1))) (nI (csum (fun k => if out_ k = true then al k else 0) (i + 1))) (nI i) x m := by
        intro x hx y hy
        rw [hy, nI_1, hx]
        exact this
      have l131 : ∀ g, (g = true ↔ grn i) → j_Model_ofTiles_L131 (j_Model_ofTiles_L12 K (n + 1)) K (nI (csum (fun k => if 27 ≤ k then al k else 0) (i + 1))) (nI (csum (fun k => if out_ k = true then 0 else al k) (i + 1))) (nI (csum (fun k => if out_ k = true then al k else 0) (i + 1))) (bI (bb (∀ k, k < i → al k = 0 ∨ grn k))) (nI i) (bI g) m := by
        intro g hgi
        have up : (∀ k, k < i → al k = 0 ∨ grn k) → (al i = 0 ∨ grn i) → bb (∀ k, k < i + 1 → al k = 0 ∨ grn k) = true := fun h1 h2 => bb_t (fun k hk => by
          by_cases e : k = i
          · rw [e]; exact h2
          · exact h1 k (by omega))
        unfold j_Model_ofTiles_L131 j_Model_ofTiles_L153 j_Model_ofTiles_L157
        rw [bI_0, bI_0, nI_clamp (by omega), ga i hi34, pz_0 (by omega)]
        refine ⟨fun h => l158 0 ?_, fun h => ⟨pz_in hi34 (by omega), fun h2 => l158 1 ?_, fun h2 => ⟨fun h3 => l158 0 ?_, fun h3 => l158 1 ?_⟩⟩⟩
        · rw [bb_f (fun z => by rw [bb_t (fun k hk => z k (by omega))] at h; cases h)]; rfl
        · rw [up (bb_iff.mp (ts_nf h)) (Or.inl h2)]; rfl
        · rw [bb_f (fun z => by
            rcases z i (by omega) with y | y
            · exact h2 y
            · rw [hgi.mpr y] at h3; cases h3)]; rfl
        · rw [up (bb_iff.mp (ts_nf h)) (Or.inr (hgi.mp (ts_nf h3)))]; rfl
      have l82 : ∀ t, t = (if out_ i = true then 0 else al i) → j_Model_ofTiles_L82 (j_Model_ofTiles_L12 K (n + 1)) K (nI (csum (fun k => if 27 ≤ k then al k else 0) (i + 1))) (nI (csum (fun k => if out_ k = true then al k else 0) (i + 1))) (bI (bb (∀ k, k < i → al k = 0 ∨ grn k))) (nI i) (nI t) (nI (csum (fun k => if out_ k = true then 0 else al k) i)) m := by
        intro t ht
        unfold j_Model_ofTiles_L82 j_Model_ofTiles_L126
        intro y9 hy9
        rw [nI_add, ht] at hy9
        have e9 : y9 = nI (csum (fun k => if out_ k = true then 0 else al k) (i + 1)) := by rw [hy9]; rfl
        rw [e9]
        have e : ∀ x : Nat, x < 100 → ((nI i = nI x) = (i = x)) := fun x hx => pz_eq (by omega) (by omega)
        rw [show (nI i = 19) = (i = 19) from e 19 (by omega), show (nI i = 20) = (i = 20) from e 20 (by omega), show (nI i = 21) = (i = 21) from e 21 (by omega), show (nI i = 23) = (i = 23) from e 23 (by omega), show (nI i = 25) = (i = 25) from e 25 (by omega), show (nI i = 32) = (i = 32) from e 32 (by omega)]
        have yes : grn i → j_Model_ofTiles_L131 (j_Model_ofTiles_L12 K (n + 1)) K (nI (csum (fun k => if 27 ≤ k then al k else 0) (i + 1))) (nI (csum (fun k => if out_ k = true then 0 else al k) (i + 1))) (nI (csum (fun k => if out_ k = true then al k else 0) (i + 1))) (bI (bb (∀ k, k < i → al k = 0 ∨ grn k))) (nI i) 1 m := fun h => l131 true ⟨fun _ => h, fun _ => rfl⟩
        refine ⟨fun h => yes (by unfold grn; omega), fun h1 => ⟨fun h => yes (by unfold grn; omega), fun h2 => ⟨fun h => yes (by unfold grn; omega), fun h3 => ⟨fun h => yes (by unfold grn; omega), fun h5 => ⟨fun h => yes (by unfold grn; omega), fun h6 => ⟨fun h7 => l131 false ⟨fun z => (by cases z), fun z => (by unfold grn at z; omega)⟩, fun h => yes (by unfold grn; omega)⟩⟩⟩⟩⟩⟩
      have l60 : ∀ t, t = (if out_ i = true then al i else 0) → j_Model_ofTiles_L60 (j_Model_ofTiles_L12 K (n + 1)) K (nI (csum (fun k => if 27 ≤ k then al k else 0) (i + 1))) (nI (csum (fun k => if out_ k = true then 0 else al k) i)) (bI (bb (∀ k, k < i → al k = 0 ∨ grn k))) (nI i) (nI t) (nI (csum (fun k => if out_ k = true then al k else 0) i)) m := by
        intro t ht
        unfold j_Model_ofTiles_L60
        intro y6 hy6
        rw [nI_add, ht] at hy6
        have e6 : y6 = nI (csum (fun k => if out_ k = true then al k else 0) (i + 1)) := by rw [hy6]; rfl
        rw [e6]
        refine w_Model_outer (by omega) (fun ho => ⟨fun z => absurd z (by decide), fun _ => l82 0 (by rw [if_pos ho])⟩) (fun ho => ⟨fun _ => ⟨pz_in hi34 (by omega), ?_⟩, fun z => absurd rfl z⟩)
        rw [nI_clamp (by omega), ga i hi34]
        exact l82 _ (by rw [if_neg (by rw [ho]; decide)])
      have l38 : ∀ t, t = (if 27 ≤ i then al i else 0) → j_Model_ofTiles_L38 (j_Model_ofTiles_L12 K (n + 1)) K (nI (csum (fun k => if out_ k = true then 0 else al k) i)) (nI (csum (fun k => if out_ k = true then al k else 0) i)) (bI (bb (∀ k, k < i → al k = 0 ∨ grn k))) (nI i) (nI t) (nI (csum (fun k => if 27 ≤ k then al k else 0) i)) m := by
        intro t ht
        unfold j_Model_ofTiles_L38
        intro y3 hy3
        rw [nI_add, ht] at hy3
        have e3 : y3 = nI (csum (fun k => if 27 ≤ k then al k else 0) (i + 1)) := by rw [hy3]; rfl
        rw [e3]
        refine w_Model_outer (by omega) (fun ho => ⟨fun z => absurd z (by decide), fun _ => ⟨pz_in hi34 (by omega), ?_⟩⟩) (fun ho => ⟨fun _ => l60 0 (by rw [if_neg (by rw [ho]; decide)]), fun z => absurd rfl z⟩)
        rw [nI_clamp (by omega), ga i hi34]
        exact l60 _ (by rw [if_pos ho])
      rw [j_Model_ofTiles_L12, show ((34 : Int32) ≤ nI i) = (34 ≤ i) from pz_le (a := 34) (by omega) (by omega), show (nI i < (27 : Int32)) = (i < 27) from pz_lt (b := 27) (by omega) (by omega), nI_clamp (by omega), ga i hi34]
      exact ⟨fun z => by omega, fun _ => ⟨fun h => l38 0 (by rw [if_neg (by omega)]), fun h => ⟨pz_in hi34 (by omega), l38 _ (by rw [if_pos (by omega)])⟩⟩⟩
  refine ⟨35, ?_⟩
  have := main 34 0 (by omega)
  rw [bb_t (P := ∀ k, k < 0 → al k = 0 ∨ grn k) (fun k hk => by omega)] at this
  exact this
