/-! BEFORE CLAIMS ARE SETTLED: who missed a tile, who answered what -/
def wt (S : zS) (p : Nat) : Prop := wait_ (cf S p) (mf S p) (S.1 2 p) (til S)
noncomputable def nmS (S : zS) (g : Bool) (n : Nat) : zS := (fun a j => if a = 8 ∧ j < n ∧ g = true ∧ ¬ S.1 10 j = 4 ∧ bb (wt S j) = true then 1 else S.1 a j, S.2)
theorem nm_f (S : zS) (g : Bool) (n a : Nat) (h : ¬ a = 8) : (nmS S g n).1 a = S.1 a := by
  funext j
  show (if a = 8 ∧ j < n ∧ g = true ∧ ¬ S.1 10 j = 4 ∧ bb (wt S j) = true then 1 else S.1 a j) = _
  rw [if_neg (fun z => h z.1)]
theorem nm_0 (S : zS) (g : Bool) : nmS S g 0 = S := by
  refine Prod.ext ?_ rfl
  funext a j
  show (if a = 8 ∧ j < 0 ∧ g = true ∧ ¬ S.1 10 j = 4 ∧ bb (wt S j) = true then 1 else S.1 a j) = _
  rw [if_neg (by omega)]
theorem nm_g (S : zS) (n : Nat) : nmS S false n = S := by
  refine Prod.ext ?_ rfl
  funext a j
  show (if a = 8 ∧ j < n ∧ false = true ∧ ¬ S.1 10 j = 4 ∧ bb (wt S j) = true then 1 else S.1 a j) = _
  rw [if_neg (fun z => by have := z.2.2.1; cases this)]
theorem nm_s (S : zS) (g : Bool) (n v : Nat) (h : v = if g = true ∧ ¬ S.1 10 n = 4 ∧ bb (wt S n) = true then 1 else S.1 8 n) : us (nmS S g n) 8 n v = nmS S g (n + 1) := by
  refine Prod.ext ?_ rfl
  funext a j
  show (if a = 8 ∧ j = n then v else if a = 8 ∧ j < n ∧ g = true ∧ ¬ S.1 10 j = 4 ∧ bb (wt S j) = true then 1 else S.1 a j) = if a = 8 ∧ j < n + 1 ∧ g = true ∧ ¬ S.1 10 j = 4 ∧ bb (wt S j) = true then 1 else S.1 a j
  by_cases e : a = 8 ∧ j = n
  · rw [if_pos e, h]
    obtain ⟨e1, e2⟩ := e
    subst e1 e2
    by_cases q : g = true ∧ ¬ S.1 10 j = 4 ∧ bb (wt S j) = true
    · rw [if_pos q, if_pos ⟨rfl, by omega, q⟩]
    · rw [if_neg q, if_neg (fun z => q z.2.2)]
  · rw [if_neg e]
    by_cases q : a = 8 ∧ j < n ∧ g = true ∧ ¬ S.1 10 j = 4 ∧ bb (wt S j) = true
    · rw [if_pos q, if_pos ⟨q.1, by omega, q.2.2⟩]
    · rw [if_neg q, if_neg (fun z => q ⟨z.1, by omega, z.2.2⟩)]
theorem nm_8 (S : zS) (g : Bool) {n j : Nat} (h : n ≤ j) : (nmS S g n).1 8 j = S.1 8 j := by
  show (if 8 = 8 ∧ j < n ∧ g = true ∧ ¬ S.1 10 j = 4 ∧ bb (wt S j) = true then 1 else S.1 8 j) = _
  rw [if_neg (by omega)]
theorem Bd.nm {S : zS} (B : Bd S) (g : Bool) (n : Nat) : Bd (nmS S g n) := by
  intro a j ha
  show (if a = 8 ∧ j < n ∧ g = true ∧ ¬ S.1 10 j = 4 ∧ bb (wt S j) = true then 1 else S.1 a j) ≤ bd a
  split
  · rename_i h; rw [h.1]; show 1 ≤ 1; omega
  · exact B a j ha
theorem w_noteMissed {t : Nat} {m m0 : zm} {S : zS} {K : zm → Prop} (R : Rc m S m0) (B : Bd S) (h21 : S.1 21 0 = t + 1) (k : ∀ m', Rc m' (nmS S true 4) m0 → K m') : j_Table_noteMissed m K := by
  have b21 := B.b21 0
  have ht : til S = t := by unfold til; omega
  have main : ∀ n i m, i + n = 4 → Rc m (nmS S true i) m0 → j_Table_noteMissed_L2 K (n + 1) (nI i) m := by
    intro n
    induction n with
    | zero =>
      intro i m hi R
      have e4 : i = 4 := by omega
      subst e4
      rw [j_Table_noteMissed_L2, show (4 : Int32) = nI 4 from rfl, pz_le (by omega) (by omega)]
      exact ⟨fun _ => k m R, fun z => absurd (by omega) z⟩
    | succ n ih =>
      intro i m hi R
      have hi4 : i < 4 := by omega
      have b10 := B.b10 i
      have g10 : m.1 (13 + 5 * i) 11 = nI (S.1 10 i) := by
        rw [R.g10 hi4, nm_f S true i 10 (by omega)]
      have g9 : m.1 0 9 = nI t := by
        rw [R.g21, nm_f S true i 21 (by omega), h21, nI_pred]
      have nx : ∀ m v, v = (if true = true ∧ ¬ S.1 10 i = 4 ∧ bb (wt S i) = true then 1 else S.1 8 i) → Rc m (us (nmS S true i) 8 i v) m0 → j_Table_noteMissed_L46 (j_Table_noteMissed_L2 K (n + 1)) K (nI i) m := by
        intro m v hv R y hy
        rw [hy, nI_1]
        rw [nm_s S true i v hv] at R
        exact ih (i + 1) m (by omega) R
      have same : ∀ v, v = S.1 8 i → Rc m (us (nmS S true i) 8 i v) m0 := by
        intro v hv
        rw [show v = (nmS S true i).1 8 i from by rw [nm_8 S true (Nat.le_refl i)]; exact hv, us_id]
        exact R
      have pp := R.pP (B.nm true i) hi4
      rw [cf_c (nm_f S true i 1 (by omega)), mf_c (nm_f S true i 3 (by omega)), nm_f S true i 2 (by omega)] at pp
      rw [j_Table_noteMissed_L2, show (4 : Int32) = nI 4 from rfl, pz_le (by omega) (by omega), nI_clamp (by omega), g10, pz_eq (by omega) (by omega), g9]
      refine ⟨fun z => by omega, fun _ => ⟨pz_in hi4 (by omega), fun h => ?_, fun h => ⟨pz_in hi4 (by omega), ?_⟩⟩⟩
      · refine nx m (S.1 8 i) ?_ (same _ rfl)
        rw [if_neg (fun z => z.2.1 h)]
      · refine w_Player_isWait pp (by omega) (fun hw => ?_) (fun hw => ?_)
        · refine ⟨fun z => absurd z (by decide), fun _ => ⟨pz_in hi4 (by omega), R.t8 hi4 (v := 1) (fun m1 R => nx m1 1 ?_ R)⟩⟩
          rw [if_pos ⟨rfl, h, bb_t (by unfold wt; rw [ht]; exact hw)⟩]
        · refine ⟨fun _ => nx m (S.1 8 i) ?_ (same _ rfl), fun z => absurd rfl z⟩
          rw [if_neg (fun z => hw (by have := bb_iff.mp z.2.2; unfold wt at this; rw [ht] at this; exact this))]
  refine ⟨5, main 4 0 m (by omega) ?_⟩
  rw [nm_0]
  exact R
theorem w_findAnswer {w : Nat} {m m0 : zm} {S : zS} {K : Int32 → zm → Prop} (R : Rc m S m0) (B : Bd S) (hw : w < 5) (hT : ∀ p, p < 4 → S.1 10 p = w → K (nI p) m) (hF : (∀ p, p < 4 → ¬ S.1 10 p = w) → K (-1) m) : j_Table_findAnswer (nI w) m K := by
  have main : ∀ n i, i + n = 4 → (∀ p, p < i → ¬ S.1 10 p = w) → j_Table_findAnswer_L2 (nI w) K (n + 1) (nI i) m := by
    intro n
    induction n with
    | zero =>
      intro i hi h
      rw [j_Table_findAnswer_L2, show (4 : Int32) = nI 4 from rfl, pz_le (by omega) (by omega)]
      exact ⟨fun _ => hF (fun p hp => h p (by omega)), fun z => absurd (by omega) z⟩
    | succ n ih =>
      intro i hi h
      have b10 := B.b10 i
      rw [j_Table_findAnswer_L2, show (4 : Int32) = nI 4 from rfl, pz_le (by omega) (by omega), nI_clamp (by omega), R.g10 (by omega), pz_eq (by omega) (by omega)]
      refine ⟨fun z => by omega, fun _ => ⟨pz_in (by omega) (by omega), fun h2 y hy => ?_, fun h2 => hT i (by omega) h2⟩⟩
      rw [hy, nI_1]
      refine ih (i + 1) (by omega) (fun p hp => ?_)
      by_cases q : p = i
      · rw [q]; exact h2
      · exact h p (by omega)
  exact ⟨5, main 4 0 (by omega) (fun p hp => by omega)⟩
theorem dm_1 : ∀ d, d < 4 → 0 < d → nI d + (-1) = nI (d - 1) := by decide
theorem w_answered {w : Nat} {m m0 : zm} {S : zS} {K : Int32 → zm → Prop} (R : Rr m S m0) (B : Bd S) (hw : w < 5) (hT : ∀ d, 1 ≤ d → d ≤ 3 → S.1 10 ((S.1 14 0 + d) % 4) = w → (∀ e, 1 ≤ e → e < d → ¬ S.1 10 ((S.1 14 0 + e) % 4) = w) → K (nI ((S.1 14 0 + d) % 4)) m) (hF : (∀ d, 1 ≤ d → d ≤ 3 → ¬ S.1 10 ((S.1 14 0 + d) % 4) = w) → K (-1) m) : j_Model_answered (nI w) m K := by
  have b14 := B.b14 0
  have main : ∀ d x, d ≤ 3 → ((x = -1 ∧ ∀ e, d < e → e ≤ 3 → ¬ S.1 10 ((S.1 14 0 + e) % 4) = w) ∨ ∃ f, d < f ∧ f ≤ 3 ∧ x = nI ((S.1 14 0 + f) % 4) ∧ S.1 10 ((S.1 14 0 + f) % 4) = w ∧ ∀ e, d < e → e < f → ¬ S.1 10 ((S.1 14 0 + e) % 4) = w) → j_Model_answered_L4 (nI w) K (d + 1) x (nI d) m := by
    intro d
    induction d with
    | zero =>
      intro x _ h
      rw [j_Model_answered_L4]
      refine ⟨fun _ => ?_, fun z => absurd (by decide) z⟩
      rcases h with ⟨e, h⟩ | ⟨f, h1, h2, h3, h4, h5⟩
      · rw [e]; exact hF (fun d hd1 hd2 => h d (by omega) hd2)
      · rw [h3]; exact hT f (by omega) h2 h4 (fun e he1 he2 => h5 e (by omega) he2)
    | succ d ih =>
      intro x hd h
      have b10 := B.b10 ((S.1 14 0 + (d + 1)) % 4)
      rw [j_Model_answered_L4, show (0 : Int32) = nI 0 from rfl, pz_le (by omega) (by omega), R.g14, nI_add, show (4 : Int32) = nI 4 from rfl]
      refine ⟨fun z => by omega, fun _ y hy => ?_⟩
      have ey : y = nI ((S.1 14 0 + (d + 1)) % 4) := by rw [hy]; exact pz_rem4 (by omega)
      rw [ey, nI_clamp (by omega), R.g10 (by omega), pz_eq (by omega) (by omega)]
      refine ⟨pz_in (by omega) (by omega), fun h2 y2 hy2 => ?_, fun h2 y2 hy2 => ?_⟩
      · rw [hy2, dm_1 (d + 1) (by omega) (by omega)]
        refine ih x (by omega) ?_
        rcases h with ⟨e, h⟩ | ⟨f, h1, h3, h4, h5, h6⟩
        · refine Or.inl ⟨e, fun e' he1 he2 => ?_⟩
          by_cases q : e' = d + 1
          · rw [q]; exact h2
          · exact h e' (by omega) he2
        · refine Or.inr ⟨f, by omega, h3, h4, h5, fun e' he1 he2 => ?_⟩
          by_cases q : e' = d + 1
          · rw [q]; exact h2
          · exact h6 e' (by omega) he2
      · rw [hy2, dm_1 (d + 1) (by omega) (by omega)]
        exact ih _ (by omega) (Or.inr ⟨d + 1, by omega, hd, rfl, h2, fun e' he1 he2 => by omega⟩)
  exact ⟨4, main 3 (-1) (by omega) (Or.inl ⟨rfl, fun e h1 h2 => by omega⟩)⟩
theorem wm_b {S : zS} {p t : Nat} (ht : til S = t) (h34 : t < 34) (hs : ssm S p = 13) : (wm_ (cf S p) (mf S p) (S.1 2 p)).testBit t = true ↔ wt S p := by
  rw [wm_bit h34]
  unfold wt
  rw [ht]
  exact ⟨fun z => z.2, fun z => ⟨hs, z⟩⟩
noncomputable def ask_ (S : zS) : Int32 := if bb (∃ p, p < 4 ∧ ¬ S.1 10 p = 0) = true then 1 else 0
/-- how the reference settles: first who missed the tile, then this -/
def stl (S : zS) (x1 x2 : Int32) (m : zm) (K : zm → Prop) : Prop := (x1 = 0 → (((m.1 33 25) = 0 → (j_Model_payStick m (fun m4 => ((x2 = 0 → (j_Model_drawFor (((m4.1 33 4) + 1) - ((m4.1 33 4) + 1) / 4 * 4) m4 (fun m5 => K m5))) ∧ (¬ x2 = 0 → (j_Model_call m4 (fun m6 => K m6))))))) ∧ (¬ (m.1 33 25) = 0 → (j_Model_completeAdded m (fun m7 => K m7))))) ∧ (¬ x1 = 0 → (j_Model_winByTile m (fun m8 => K m8)))
theorem w_settleR {t : Nat} {m m0 : zm} {S : zS} {K : zm → Prop} (R : Rr m S m0) (B : Bd S) (M : Mk S) (h21 : S.1 21 0 = t + 1) (h27 : S.1 27 0 = t) (s : ∀ p, p < 4 → ssm S p = 13) (h14 : ∀ p, p < 4 → S.1 10 p = 4 → ¬ p = S.1 14 0) (k : ∀ m' x1, Rr m' (nmS S (decide (S.1 15 0 = 0 ∨ S.1 29 0 = 1)) 4) m0 → ((x1 = 0 ∧ ∀ p, p < 4 → ¬ S.1 10 p = 4) ∨ (x1 = 1 ∧ ∃ p, p < 4 ∧ S.1 10 p = 4)) → stl S x1 (ask_ S) m' K) : j_Model_settle m K := by
  have b21 := B.b21 0
  have b14 := B.b14 0
  have b15 := B.b15 0
  have b29 := B.b29 0
  have ht : til S = t := by unfold til; omega
  have h34 : t < 34 := by omega
  have go : ∀ x1, ((x1 = 0 ∧ ∀ p, p < 4 → ¬ S.1 10 p = 4) ∨ (x1 = 1 ∧ ∃ p, p < 4 ∧ S.1 10 p = 4)) → j_Model_settle_L13 K x1 m := by
    intro x1 hx1
    have l50 : ∀ n i m, i + n = 4 → Rr m (nmS S (decide (S.1 15 0 = 0 ∨ S.1 29 0 = 1)) i) m0 → j_Model_settle_L50 K (n + 1) x1 (ask_ S) (nI i) m := by
      intro n
      induction n with
      | zero =>
        intro i m hi R
        have e4 : i = 4 := by omega
        subst e4
        rw [j_Model_settle_L50, show (4 : Int32) ≤ nI 4 ↔ True from ⟨fun _ => trivial, fun _ => by decide⟩]
        exact ⟨fun _ => k m x1 R hx1, fun z => absurd trivial z⟩
      | succ n ih =>
        intro i m hi R
        have hi4 : i < 4 := by omega
        have b10 := B.b10 i
        have b8 := B.b8 i
        have f : ∀ a, ¬ a = 8 → (nmS S (decide (S.1 15 0 = 0 ∨ S.1 29 0 = 1)) i).1 a = S.1 a := fun a h => nm_f S _ i a h
        have g10 : m.1 46 i = nI (S.1 10 i) := by rw [R.g10 hi4, f 10 (by omega)]
        have nx : ∀ m v, v ≤ 1 → v = (if decide (S.1 15 0 = 0 ∨ S.1 29 0 = 1) = true ∧ ¬ S.1 10 i = 4 ∧ bb (wt S i) = true then 1 else S.1 8 i) → Rr m (nmS S (decide (S.1 15 0 = 0 ∨ S.1 29 0 = 1)) i) m0 → j_Model_settle_L135 (j_Model_settle_L50 K (n + 1)) K x1 (ask_ S) (nI i) (nI v) (nI i) m := by
          intro m v hv1 hv R
          unfold j_Model_settle_L135
          rw [nI_clamp (by omega)]
          refine ⟨pz_in hi4 (by omega), ?_, R.t8 hi4 (fun m1 R y hy => ?_)⟩
          · rcases (show v = 0 ∨ v = 1 by omega) with e | e <;> rw [e]
            · exact Or.inl rfl
            · exact Or.inr rfl
          · rw [hy, nI_1]
            rw [nm_s S _ i v hv] at R
            exact ih (i + 1) m1 (by omega) R
        have l95 : ∀ m x, ((x = 1 ∧ ¬ S.1 10 i = 4 ∧ wt S i) ∨ (x = 0 ∧ ¬ (¬ S.1 10 i = 4 ∧ wt S i))) → Rr m (nmS S (decide (S.1 15 0 = 0 ∨ S.1 29 0 = 1)) i) m0 → j_Model_settle_L95 (j_Model_settle_L50 K (n + 1)) K x1 (ask_ S) (nI i) x m := by
          intro m x hx R
          have g8 : m.1 44 i = nI (S.1 8 i) := by rw [R.g8 hi4, nm_8 S _ (Nat.le_refl i)]
          have g25 : m.1 33 25 = nI (S.1 15 0) := by rw [R.g15, f 15 (by omega)]
          have g26 : m.1 33 26 = nI (S.1 29 0) := by rw [R.g29, f 29 (by omega)]
          unfold j_Model_settle_L95
          rw [nI_clamp (by omega), g8, g25, g26, pz_0 (by omega), pz_0 (by omega), pz_0 (by omega)]
          refine ⟨pz_in hi4 (by omega), fun h => nx m 1 (by omega) ?_ R, fun h => ?_⟩
          · split
            · rfl
            · omega
          · rcases hx with ⟨e, q⟩ | ⟨e, q⟩ <;> subst e
            · refine ⟨fun z => absurd z (by decide), fun _ => ⟨fun h2 => nx m 1 (by omega) ?_ R, fun h2 => ⟨fun h3 => nx m 0 (by omega) ?_ R, fun h3 => nx m 1 (by omega) ?_ R⟩⟩⟩
              · rw [if_pos ⟨decide_eq_true (Or.inl h2), q.1, bb_t q.2⟩]
              · rw [if_neg (fun z => by have := of_decide_eq_true z.1; omega)]
                omega
              · rw [if_pos ⟨decide_eq_true (Or.inr (by omega)), q.1, bb_t q.2⟩]
            · refine ⟨fun _ => nx m 0 (by omega) ?_ R, fun z => absurd rfl z⟩
              rw [if_neg (fun z => q ⟨z.2.1, bb_iff.mp z.2.2⟩)]
              omega
        have g14 : m.1 33 4 = nI (S.1 14 0) := by rw [R.g14, f 14 (by omega)]
        rw [j_Model_settle_L50, show ((4 : Int32) ≤ nI i) = (4 ≤ i) from pz_le (a := 4) (by omega) (by omega), nI_clamp (by omega), g10, show (nI (S.1 10 i) = 4) = (S.1 10 i = 4) from pz_eq (b := 4) (by omega) (by omega), g14, pz_eq (by omega) (by omega)]
        refine ⟨fun z => by omega, fun _ => ⟨pz_in hi4 (by omega), fun h => ?_, fun h => ⟨fun _ => l95 m 0 (Or.inr ⟨rfl, fun z => z.1 h⟩) R, fun z => absurd z (h14 i hi4 h)⟩⟩⟩
        have rp := R.rP (B.nm _ i) (M.c (f 3 (by omega)) (f 22 (by omega)) (f 23 (by omega))) hi4
        rw [cf_c (f 1 (by omega)), mf_c (f 3 (by omega)), f 2 (by omega)] at rp
        refine w_Model_waitsOf hi4 rp (cf_5 B) (Or.inl (s i hi4)) (fun m1 e1 => ?_)
        have R := R.keep e1
        have g24 : m1.1 33 24 = nI t := by rw [R.g27, f 27 (by omega), h27]
        have hlt := wm_lt (cf S i) (mf S i) (S.1 2 i)
        rw [g24, pz_lbit1 (by omega) (by omega)]
        refine ⟨fun h2 => l95 m1 0 (Or.inr ⟨rfl, fun z => h2 ((wm_b ht h34 (s i hi4)).mpr z.2)⟩) R, fun h2 => l95 m1 1 (Or.inl ⟨rfl, h, (wm_b ht h34 (s i hi4)).mp h2⟩) R⟩
    have l18 : ∀ n i x, i + n = 4 → ((x = 1 ∧ ∃ p, p < 4 ∧ ¬ S.1 10 p = 0) ∨ (x = 0 ∧ ∀ p, p < i → S.1 10 p = 0)) → j_Model_settle_L18 K (n + 1) x1 x (nI i) m := by
      intro n
      induction n with
      | zero =>
        intro i x hi hx
        have e4 : i = 4 := by omega
        subst e4
        rw [j_Model_settle_L18, show ((4 : Int32) ≤ nI 4) = True from propext ⟨fun _ => trivial, fun _ => by decide⟩]
        refine ⟨fun _ => ⟨5, ?_⟩, fun z => absurd trivial z⟩
        have ex : x = ask_ S := by
          unfold ask_
          rcases hx with ⟨e, h⟩ | ⟨e, h⟩
          · rw [if_pos (bb_t h)]; exact e
          · rw [if_neg (fun z => by obtain ⟨p, h1, h2⟩ := bb_iff.mp z; exact h2 (h p h1))]; exact e
        rw [ex]
        exact l50 4 0 m (by omega) (by rw [nm_0]; exact R)
      | succ n ih =>
        intro i x hi hx
        have hi4 : i < 4 := by omega
        have b10 := B.b10 i
        have nx : ∀ x, ((x = 1 ∧ ∃ p, p < 4 ∧ ¬ S.1 10 p = 0) ∨ (x = 0 ∧ ∀ p, p < i + 1 → S.1 10 p = 0)) → j_Model_settle_L41 (j_Model_settle_L18 K (n + 1)) K x1 (nI i) x m := by
          intro x hx y hy
          rw [hy, nI_1]
          exact ih (i + 1) x (by omega) hx
        rw [j_Model_settle_L18, show ((4 : Int32) ≤ nI i) = (4 ≤ i) from pz_le (a := 4) (by omega) (by omega), nI_clamp (by omega), R.g10 hi4]
        refine ⟨fun z => by omega, fun _ => ?_⟩
        rcases hx with ⟨e, h⟩ | ⟨e, h⟩ <;> subst e
        · exact ⟨fun _ => nx 1 (Or.inl ⟨rfl, h⟩), fun z => absurd z (by decide)⟩
        · refine ⟨fun z => absurd rfl z, fun _ => ⟨pz_in hi4 (by omega), ?_⟩⟩
          rw [show (0 : Int32) = nI 0 from rfl, pz_le (by omega) (by omega)]
          refine ⟨fun h2 => nx _ (Or.inr ⟨rfl, fun p hp => ?_⟩), fun h2 => nx 1 (Or.inl ⟨rfl, i, hi4, by omega⟩)⟩
          by_cases q : p = i
          · rw [q]; omega
          · exact h p (by omega)
    exact ⟨5, l18 4 0 0 (by omega) (Or.inr ⟨rfl, fun p hp => by omega⟩)⟩
  refine w_answered (w := 4) R B (by omega) (fun d h1 h2 h3 _ => ?_) (fun h => ?_)
  · exact ⟨fun z => absurd z (nI_n0 (by omega)), fun _ => go 1 (Or.inr ⟨rfl, _, by omega, h3⟩)⟩
  · refine ⟨fun _ => go 0 (Or.inl ⟨rfl, fun p hp h4 => ?_⟩), fun z => absurd (by decide) z⟩
    have hn := h14 p hp h4
    refine h ((p + 4 - S.1 14 0) % 4) (by omega) (by omega) ?_
    rw [show (S.1 14 0 + (p + 4 - S.1 14 0) % 4) % 4 = p by omega]
    exact h4
