/-! WHAT ALL TILES GIVE -/
def kf (al : Nat → Nat) : Nat → Bool := fun j => decide (j < 34) && decide (0 < al j)
theorem kz {al : Nat → Nat} {g : Nat → Bool} {c : Int64} (hc : c = lN (mk_ g 64)) : (lg_cmp (lY (kf al) &&& c) 0 = 0) = (∀ k, k < 34 → g k = true → al k = 0) := by
  rw [pz_cmp0, hc, lY, wb_and (Nat.lt_trans (mk_lt _ 42) (by decide)) (mk_lt _ 64), mk_an2 _ _ (by omega), lN_0 (Nat.lt_trans (mk_lt _ 42) (by decide))]
  refine propext ⟨fun h k hk hg => ?_, fun h => mk_z.mpr (fun k hk => ?_)⟩
  · have := mk_z.mp h k (by omega)
    unfold kf at this
    rw [hg, decide_eq_true hk] at this
    simp at this
    exact this
  · unfold kf
    by_cases q : k < 34
    · cases hg : g k
      · simp
      · have := h k q hg
        simp [this]
    · simp [q]
theorem mk_o : (17113154305 : Int64) = lN (mk_ (fun k => decide (k < 34) && out_ k) 64) := by decide +kernel
theorem mk_no : (-17113154306 : Int64) = lN (mk_ (fun k => !(decide (k < 34) && out_ k)) 64) := by decide +kernel
theorem mk_h : (17045651456 : Int64) = lN (mk_ (fun k => decide (k < 34) && decide (27 ≤ k)) 64) := by decide +kernel
theorem mk_tm : (-67502850 : Int64) = lN (mk_ (fun k => !(decide (k < 27) && out_ k)) 64) := by decide +kernel
theorem mk_g : (-4340580353 : Int64) = lN (mk_ (fun k => !(k == 19 || k == 20 || k == 21 || k == 23 || k == 25 || k == 32)) 64) := by decide +kernel
theorem csum_z {c : Nat → Nat} : ∀ {n}, csum c n = 0 ↔ ∀ j, j < n → c j = 0 := by
  intro n
  refine ⟨fun h j hj => ?_, fun h => csum_0 h⟩
  have := csum_ge (R := c) hj
  omega
theorem su_f {al : Nat → Nat} {s : Nat} : (su_ al s = false) = (∀ j, j < 9 → al (9 * s + j) = 0) := by
  unfold su_
  refine propext ⟨fun h => ?_, fun h => ?_⟩
  · have := of_decide_eq_false h
    exact csum_z.mp (by omega)
  · refine decide_eq_false ?_
    rw [csum_z.mpr h]
    omega
theorem sz_s {al : Nat → Nat} {s : Nat} (hs : s < 3) : (lg_cmp ((lY (kf al) >>> ((nI (9 * s)).toInt64 &&& 63)) &&& 511) 0 = 0) = (su_ al s = false) := by
  have e1 : (511 : Int64) = lN (mk_ (fun _ => true) 9) := by decide +kernel
  rw [pz_cmp0, e1, lY, pf_shr (pz_d63 (9 * s) (by omega)) (lY_lt _), mk_dv, wb_and (Nat.lt_trans (mk_lt _ _) (by
    have : 2 ^ (42 - 9 * s) ≤ 2 ^ 42 := Nat.pow_le_pow_right (by omega) (by omega)
    omega)) (Nat.lt_trans (mk_lt _ 9) (by decide)), Nat.and_comm, mk_an2 _ _ (by omega), lN_0 (Nat.lt_trans (mk_lt _ 9) (by decide)), su_f]
  refine propext ⟨fun h j hj => ?_, fun h => mk_z.mpr (fun k hk => ?_)⟩
  · have := mk_z.mp h j hj
    unfold kf at this
    simp only [Bool.true_and] at this
    rw [decide_eq_true (show j + 9 * s < 34 by omega)] at this
    simp at this
    rw [Nat.add_comm]
    exact this
  · unfold kf
    have := h k hk
    rw [Nat.add_comm] at this
    simp [this]
def nsu (al : Nat → Nat) : Nat → Nat
  | 0 => 0
  | n + 1 => nsu al n + (if su_ al n = true then 1 else 0)
def lsu (al : Nat → Nat) : Nat → Nat
  | 0 => 0
  | n + 1 => if su_ al n = true then n else lsu al n
def hon_ (al : Nat → Nat) : Prop := ∃ k, 27 ≤ k ∧ k < 34 ∧ 0 < al k
def nin_ (al : Nat → Nat) (s : Nat) : Prop := ∀ r, r < 9 → (if r = 0 ∨ r = 8 then 3 else 1) ≤ al (9 * s + r)
theorem one_su {al : Nat → Nat} : nsu al 3 = 1 ↔ ∃ s, s < 3 ∧ su_ al s = true ∧ ∀ r, r < 3 → su_ al r = true → r = s := by
  simp only [nsu]
  have three : ∀ r, r < 3 → r = 0 ∨ r = 1 ∨ r = 2 := fun r h => by omega
  refine ⟨fun h => ?_, fun ⟨s, h1, h2, h3⟩ => ?_⟩
  · cases q0 : su_ al 0 <;> cases q1 : su_ al 1 <;> cases q2 : su_ al 2 <;> simp [q0, q1, q2] at h
    · exact ⟨2, by omega, q2, fun r hr hq => by rcases three r hr with e | e | e <;> subst e <;> simp_all⟩
    · exact ⟨1, by omega, q1, fun r hr hq => by rcases three r hr with e | e | e <;> subst e <;> simp_all⟩
    · exact ⟨0, by omega, q0, fun r hr hq => by rcases three r hr with e | e | e <;> subst e <;> simp_all⟩
  · have z : ∀ r, r < 3 → ¬ r = s → su_ al r = false := fun r hr hn => by
      cases q : su_ al r
      · rfl
      · exact absurd (h3 r hr q) hn
    rcases three s h1 with e | e | e <;> subst e
    · rw [h2, z 1 (by omega) (by omega), z 2 (by omega) (by omega)]; rfl
    · rw [h2, z 0 (by omega) (by omega), z 2 (by omega) (by omega)]; rfl
    · rw [h2, z 0 (by omega) (by omega), z 1 (by omega) (by omega)]; rfl
theorem lsu_3 {al : Nat → Nat} (h : nsu al 3 = 1) : lsu al 3 < 3 ∧ ∀ r, r < 3 → su_ al r = true → r = lsu al 3 := by
  obtain ⟨s, h1, h2, h3⟩ := one_su.mp h
  have e : lsu al 3 = s := by
    simp only [lsu]
    split
    · exact h3 2 (by omega) (by assumption)
    · split
      · exact h3 1 (by omega) (by assumption)
      · split
        · exact h3 0 (by omega) (by assumption)
        · exfalso
          rcases (show s = 0 ∨ s = 1 ∨ s = 2 by omega) with e | e | e <;> subst e <;> contradiction
  rw [e]
  exact ⟨h1, h3⟩
theorem zero_su {al : Nat → Nat} : nsu al 3 = 0 ↔ ∀ k, k < 27 → al k = 0 := by
  have e : nsu al 3 = 0 ↔ su_ al 0 = false ∧ su_ al 1 = false ∧ su_ al 2 = false := by
    simp only [nsu]
    cases su_ al 0 <;> cases su_ al 1 <;> cases su_ al 2 <;> simp
  rw [e, su_f, su_f, su_f]
  refine ⟨fun ⟨a, b, c⟩ k hk => ?_, fun h => ⟨fun j hj => h _ (by omega), fun j hj => h _ (by omega), fun j hj => h _ (by omega)⟩⟩
  rcases (show k < 9 ∨ (9 ≤ k ∧ k < 18) ∨ 18 ≤ k by omega) with q | q | q
  · have := a k q; rw [show 9 * 0 + k = k by omega] at this; exact this
  · have := b (k - 9) (by omega); rw [show 9 * 1 + (k - 9) = k by omega] at this; exact this
  · have := c (k - 18) (by omega); rw [show 9 * 2 + (k - 18) = k by omega] at this; exact this
theorem nsu_le (al : Nat → Nat) : ∀ n, nsu al n ≤ n
  | 0 => Nat.le_refl _
  | n + 1 => by
    have := nsu_le al n
    rw [nsu]
    split <;> omega
theorem lsu_le (al : Nat → Nat) : ∀ n, lsu al n ≤ n
  | 0 => Nat.le_refl _
  | n + 1 => by
    have := lsu_le al n
    rw [lsu]
    split <;> omega
/-- bits of all tiles, as the table lists them -/
noncomputable def tF (al : Nat → Nat) (w : Nat) : Nat → Bool := fun j => ((((((one_ (bb (∀ k, k < 34 → out_ k = true → al k = 0)) 24 j || one_ (bb (∀ k, k < 34 → out_ k = false → al k = 0)) 25 j) || one_ (nsu al 3 == 1 && bb (hon_ al)) 28 j) || one_ (nsu al 3 == 1 && !bb (hon_ al)) 29 j) || one_ (nsu al 3 == 1 && !bb (hon_ al) && bb (w = 0 ∧ nin_ al (lsu al 3))) 31 j) || one_ (nsu al 3 == 0) 37 j) || one_ (bb (∀ k, k < 34 → (out_ k = false ∨ 27 ≤ k) → al k = 0)) 38 j) || one_ (bb (∀ k, k < 34 → ¬ (k = 19 ∨ k = 20 ∨ k = 21 ∨ k = 23 ∨ k = 25 ∨ k = 32) → al k = 0)) 39 j
theorem tF_eq (al : Nat → Nat) (w : Nat) : lY (tF al w) = lY (tb_ al w) := by
  have h1 : (nsu al 3 == 1) = bb (∃ s, s < 3 ∧ su_ al s = true ∧ ∀ r, r < 3 → su_ al r = true → r = s) := by
    by_cases q : nsu al 3 = 1
    · rw [bb_t (one_su.mp q)]; simp [q]
    · rw [bb_f (fun z => q (one_su.mpr z))]; simp [q]
  have h0 : (nsu al 3 == 0) = bb (∀ k, k < 27 → al k = 0) := by
    by_cases q : nsu al 3 = 0
    · rw [bb_t (zero_su.mp q)]; simp [q]
    · rw [bb_f (fun z => q (zero_su.mpr z))]; simp [q]
  have hn : bb (∀ k, 27 ≤ k → k < 34 → al k = 0) = !bb (hon_ al) := by
    by_cases q : hon_ al
    · rw [bb_t q]
      refine bb_f (fun z => ?_)
      obtain ⟨k, k1, k2, k3⟩ := q
      have := z k k1 k2
      omega
    · rw [bb_f q]
      refine bb_t (fun k k1 k2 => ?_)
      refine Classical.byContradiction (fun z => q ⟨k, k1, k2, by omega⟩)
  have andb : ∀ P Q : Prop, bb (P ∧ Q) = (bb P && bb Q) := fun P Q => by
    by_cases p : P
    · by_cases q : Q
      · rw [bb_t p, bb_t q, bb_t ⟨p, q⟩]; rfl
      · rw [bb_t p, bb_f q, bb_f (fun z => q z.2)]; rfl
    · rw [bb_f p, bb_f (fun z => p z.1)]; rfl
  have e28 : bb ((∃ s, s < 3 ∧ su_ al s = true ∧ ∀ r, r < 3 → su_ al r = true → r = s) ∧ ∃ k, 27 ≤ k ∧ k < 34 ∧ 0 < al k) = (nsu al 3 == 1 && bb (hon_ al)) := by rw [andb, h1]; rfl
  have e29 : bb ((∃ s, s < 3 ∧ su_ al s = true ∧ ∀ r, r < 3 → su_ al r = true → r = s) ∧ ∀ k, 27 ≤ k → k < 34 → al k = 0) = (nsu al 3 == 1 && !bb (hon_ al)) := by rw [andb, h1, hn]
  have e31 : bb (w = 0 ∧ (∃ s, s < 3 ∧ (∀ r, r < 3 → su_ al r = true → r = s) ∧ ∀ r, r < 9 → (if r = 0 ∨ r = 8 then 3 else 1) ≤ al (9 * s + r)) ∧ ∀ k, 27 ≤ k → k < 34 → al k = 0) = (nsu al 3 == 1 && !bb (hon_ al) && bb (w = 0 ∧ nin_ al (lsu al 3))) := by
    rw [← hn]
    refine Bool.eq_iff_iff.mpr ?_
    rw [bb_iff, Bool.and_eq_true, Bool.and_eq_true, bb_iff, bb_iff, beq_p]
    refine ⟨fun ⟨a, ⟨s, s1, s2, s3⟩, c⟩ => ?_, fun ⟨⟨a, b⟩, c, d⟩ => ?_⟩
    · have hs : su_ al s = true := by
        cases q : su_ al s
        · rw [su_f] at q
          have h1 := s3 0 (by omega)
          have h2 := q 0 (by omega)
          rw [if_pos (by omega)] at h1
          omega
        · rfl
      have h3 := one_su.mpr ⟨s, s1, hs, s2⟩
      have h4 := (lsu_3 h3).2 s s1 hs
      exact ⟨⟨h3, c⟩, a, by rw [← h4]; exact s3⟩
    · have h4 := lsu_3 a
      exact ⟨c, ⟨lsu al 3, h4.1, h4.2, d⟩, b⟩
  refine lY_c ?_
  refine ix42 ?_ ?_ ?_ ?_ ?_ ?_ ?_ ?_ ?_ ?_ ?_ ?_ ?_ ?_ ?_ ?_ ?_ ?_ ?_ ?_ ?_ ?_ ?_ ?_ ?_ ?_ ?_ ?_ ?_ ?_ ?_ ?_ ?_ ?_ ?_ ?_ ?_ ?_ ?_ ?_ ?_ ?_
  · simp [tF, one_, tb_]
  · simp [tF, one_, tb_]
  · simp [tF, one_, tb_]
  · simp [tF, one_, tb_]
  · simp [tF, one_, tb_]
  · simp [tF, one_, tb_]
  · simp [tF, one_, tb_]
  · simp [tF, one_, tb_]
  · simp [tF, one_, tb_]
  · simp [tF, one_, tb_]
  · simp [tF, one_, tb_]
  · simp [tF, one_, tb_]
  · simp [tF, one_, tb_]
  · simp [tF, one_, tb_]
  · simp [tF, one_, tb_]
  · simp [tF, one_, tb_]
  · simp [tF, one_, tb_]
  · simp [tF, one_, tb_]
  · simp [tF, one_, tb_]
  · simp [tF, one_, tb_]
  · simp [tF, one_, tb_]
  · simp [tF, one_, tb_]
  · simp [tF, one_, tb_]
  · simp [tF, one_, tb_]
  · simp [tF, one_, tb_]
  · simp [tF, one_, tb_]
  · simp [tF, one_, tb_]
  · simp [tF, one_, tb_]
  · show _ = bb _
    rw [e28]
    simp [tF, one_]
  · show _ = bb _
    rw [e29]
    simp [tF, one_]
  · simp [tF, one_, tb_]
  · show _ = bb _
    rw [e31]
    simp [tF, one_]
  · simp [tF, one_, tb_]
  · simp [tF, one_, tb_]
  · simp [tF, one_, tb_]
  · simp [tF, one_, tb_]
  · simp [tF, one_, tb_]
  · show _ = bb _
    rw [← h0]
    simp [tF, one_]
  · simp [tF, one_, tb_]
  · simp [tF, one_, tb_]
  · simp [tF, one_, tb_]
  · simp [tF, one_, tb_]
theorem w_kindsOfTiles {al : Nat → Nat} {m : zm} {K : Int64 → zm → Prop} (ga : ∀ k, k < 34 → m.1 7 k = nI (al k)) (h4 : al4 al) (k : K (lY (kf al)) m) : j_Judge_kindsOfTiles m K := by
  have main : ∀ n i, i + n = 34 → j_Judge_kindsOfTiles_L4 K (n + 1) (lY (fun j => decide (j < i) && decide (0 < al j))) (nI i) m := by
    intro n
    induction n with
    | zero =>
      intro i hi
      have e : i = 34 := by omega
      subst e
      rw [j_Judge_kindsOfTiles_L4, show ((34 : Int32) ≤ nI 34) = True from propext ⟨fun _ => trivial, fun _ => by decide⟩]
      exact ⟨fun _ => k, fun z => absurd trivial z⟩
    | succ n ih =>
      intro i hi
      have hi34 : i < 34 := by omega
      have a4 := h4 i
      rw [j_Judge_kindsOfTiles_L4, show ((34 : Int32) ≤ nI i) = (34 ≤ i) from pz_le (a := 34) (by omega) (by omega), nI_clamp (by omega), ga i hi34, show (nI (al i) ≤ (0 : Int32)) = (al i ≤ 0) from pz_le (b := 0) (by omega) (by omega)]
      refine ⟨fun z => by omega, fun _ => ⟨pz_in hi34 (by omega), ?_⟩⟩
      refine fl_p (X := fun x => j_Judge_kindsOfTiles_L25 (j_Judge_kindsOfTiles_L4 K (n + 1)) K (nI i) x (lY (fun j => decide (j < i) && decide (0 < al j))) m) (decide (0 < al i)) ?_ ?_
      · refine propext ⟨fun h => ?_, fun h => decide_eq_false (by omega)⟩
        have := of_decide_eq_false h
        omega
      unfold j_Judge_kindsOfTiles_L25
      refine w_bitIf (by omega) (fun y3 hy3 y4 hy4 => ?_)
      rw [hy4, nI_1, hy3, lY_or]
      have := ih (i + 1) (by omega)
      refine Eq.mp (congrArg (fun z => j_Judge_kindsOfTiles_L4 K (n + 1) z (nI (i + 1)) m) (lY_c (fun j hj => ?_))) this
      unfold one_
      by_cases q : j = i
      · subst q; simp
      · have q1 : (j == i) = false := by simp [q]
        rw [q1, Bool.and_false, Bool.or_false]
        by_cases q2 : j < i
        · rw [decide_eq_true q2, decide_eq_true (show j < i + 1 by omega)]
        · rw [decide_eq_false q2, decide_eq_false (show ¬ j < i + 1 by omega)]
  refine ⟨35, ?_⟩
  have := main 34 0 (by omega)
  rw [show lY (fun j => decide (j < 0) && decide (0 < al j)) = 0 from by rw [← lY_0]; exact lY_c (fun j _ => by simp)] at this
  exact this
theorem w_nineGates {al : Nat → Nat} {w s : Nat} {m : zm} {K : Int32 → zm → Prop} (ga : ∀ k, k < 34 → m.1 7 k = nI (al k)) (h4 : al4 al) (g4 : m.1 2 4 = nI w) (hw : w ≤ 4) (hs : s < 3) (hT : w = 0 ∧ nin_ al s → K 1 m) (hF : ¬ (w = 0 ∧ nin_ al s) → K 0 m) : j_Judge_hasNineGates (nI (9 * s)) m K := by
  unfold j_Judge_hasNineGates
  rw [g4, pz_0 (by omega)]
  refine ⟨fun h0 => ?_, fun h0 => hF (fun z => h0 z.1)⟩
  have main : ∀ n r, r + n = 9 → (∀ r', r' < r → (if r' = 0 ∨ r' = 8 then 3 else 1) ≤ al (9 * s + r')) → j_Judge_hasNineGates_L11 (nI (9 * s)) K (n + 1) (nI (r + 1)) m := by
    intro n
    induction n with
    | zero =>
      intro r hr h
      rw [j_Judge_hasNineGates_L11, show ((9 : Int32) < nI (r + 1)) = (9 < r + 1) from pz_lt (a := 9) (by omega) (by omega)]
      exact ⟨fun _ => hT ⟨h0, fun r' hr' => h r' (by omega)⟩, fun z => absurd (by omega) z⟩
    | succ n ih =>
      intro r hr h
      have a4 := h4 (9 * s + r)
      rw [j_Judge_hasNineGates_L11, show ((9 : Int32) < nI (r + 1)) = (9 < r + 1) from pz_lt (a := 9) (by omega) (by omega), show (nI (r + 1) = 1) = (r + 1 = 1) from pz_eq (b := 1) (by omega) (by omega), show (nI (r + 1) = 9) = (r + 1 = 9) from pz_eq (b := 9) (by omega) (by omega)]
      have l33 : ∀ t, t = (if r = 0 ∨ r = 8 then 3 else 1) → j_Judge_hasNineGates_L33 (nI (9 * s)) (j_Judge_hasNineGates_L11 (nI (9 * s)) K (n + 1)) K (nI (r + 1)) (nI t) m := by
        intro t ht
        have t3 : t ≤ 3 := by rw [ht]; split <;> omega
        unfold j_Judge_hasNineGates_L33
        rw [nI_add, show nI (9 * s + (r + 1)) - 1 = nI (9 * s + r) from by rw [nI_dec (by omega)]; rfl, nI_clamp (by omega), ga _ (by omega), pz_le (by omega) (by omega)]
        refine ⟨pz_in (by omega) (by omega), fun hle y hy => ?_, fun hle => hF (fun z => hle ?_)⟩
        · rw [hy, nI_1]
          refine ih (r + 1) (by omega) (fun r' hr' => ?_)
          by_cases q : r' = r
          · rw [q, ← ht]; exact hle
          · exact h r' (by omega)
        · rw [ht]; exact z.2 r (by omega)
      refine ⟨fun z => by omega, fun _ => ⟨fun z => l33 3 ?_, fun z => ⟨fun z2 => l33 1 ?_, fun z2 => l33 3 ?_⟩⟩⟩
      · rw [if_pos (by omega)]
      · rw [if_neg (by omega)]
      · rw [if_pos (by omega)]
  exact ⟨10, main 9 0 (by omega) (fun r' hr' => by omega)⟩
theorem w_yTiles {al : Nat → Nat} {w : Nat} {m : zm} {K : Int64 → zm → Prop} (ga : ∀ k, k < 34 → m.1 7 k = nI (al k)) (h4 : al4 al) (g4 : m.1 2 4 = nI w) (hw : w ≤ 4) (k : K (lY (tb_ al w)) m) : j_Judge_yakuOfTiles m K := by
  rw [← tF_eq] at k
  refine w_kindsOfTiles ga h4 ?_
  have n3 := nsu_le al 3
  have l3 := lsu_le al 3
  have fin : ∀ b, b = bb (hon_ al) → ∀ c, c = bb (∀ k, k < 34 → out_ k = true → al k = 0) → j_Judge_yakuOfTiles_L80 K (lY (kf al)) (nI (nsu al 3)) (nI (lsu al 3)) (bI b) (bI c) m := by
    intro b hb c hc
    unfold j_Judge_yakuOfTiles_L80
    refine w_bitIf (y := 24) (by omega) ?_
    refine fl_n (X := fun x => j_Judge_yakuOfTiles_L100 K (lY (kf al)) (nI (nsu al 3)) (nI (lsu al 3)) (bI b) x (lY (one_ c 24)) m) (bb (∀ k, k < 34 → out_ k = false → al k = 0)) ?_ ?_
    · rw [kz mk_no]
      refine propext (bb_iff.trans ⟨fun h k hk hg => h k hk ?_, fun h k hk hg => h k hk ?_⟩)
      · simp [hk] at hg; exact hg
      · simp [hg]
    unfold j_Judge_yakuOfTiles_L100
    refine w_bitIf (y := 25) (by omega) ?_
    rw [lY_or, show (nI (nsu al 3) = 1) = (nsu al 3 = 1) from pz_eq (b := 1) (by omega) (by omega), bI_0]
    have l232 : ∀ F, K (lY (fun j => F j || one_ (bb (∀ k, k < 34 → ¬ (k = 19 ∨ k = 20 ∨ k = 21 ∨ k = 23 ∨ k = 25 ∨ k = 32) → al k = 0)) 39 j)) m → ((¬ (lg_cmp (lY (kf al) &&& (-4340580353)) 0) = 0 → (j_Judge_yakuOfTiles_L232 K 0 (lY F) m)) ∧ ((lg_cmp (lY (kf al) &&& (-4340580353)) 0) = 0 → (j_Judge_yakuOfTiles_L232 K 1 (lY F) m))) := by
      intro F k
      refine fl_n (X := fun x => j_Judge_yakuOfTiles_L232 K x (lY F) m) (bb (∀ k, k < 34 → ¬ (k = 19 ∨ k = 20 ∨ k = 21 ∨ k = 23 ∨ k = 25 ∨ k = 32) → al k = 0)) ?_ ?_
      · rw [kz mk_g]
        refine propext (bb_iff.trans ⟨fun h k hk hg => h k hk ?_, fun h k hk hg => h k hk ?_⟩)
        · simp at hg; omega
        · simp; omega
      · unfold j_Judge_yakuOfTiles_L232
        refine w_bitIf (y := 39) (by omega) ?_
        rw [lY_or]; exact k
    have l190 : ∀ F, K (lY (fun j => ((F j || one_ (nsu al 3 == 0) 37 j) || one_ (bb (∀ k, k < 34 → (out_ k = false ∨ 27 ≤ k) → al k = 0)) 38 j) || one_ (bb (∀ k, k < 34 → ¬ (k = 19 ∨ k = 20 ∨ k = 21 ∨ k = 23 ∨ k = 25 ∨ k = 32) → al k = 0)) 39 j)) m → ((¬ nI (nsu al 3) = 0 → (j_Judge_yakuOfTiles_L190 K (lY (kf al)) 0 (lY F) m)) ∧ (nI (nsu al 3) = 0 → (j_Judge_yakuOfTiles_L190 K (lY (kf al)) 1 (lY F) m))) := by
      intro F k
      refine fl_n (X := fun x => j_Judge_yakuOfTiles_L190 K (lY (kf al)) x (lY F) m) (nsu al 3 == 0) ?_ ?_
      · rw [beq_p, pz_0 (by omega)]
      · unfold j_Judge_yakuOfTiles_L190
        refine w_bitIf (y := 37) (by omega) ?_
        rw [lY_or]
        refine fl_n (X := fun x => j_Judge_yakuOfTiles_L211 K (lY (kf al)) x (lY (fun j => F j || one_ (nsu al 3 == 0) 37 j)) m) (bb (∀ k, k < 34 → (out_ k = false ∨ 27 ≤ k) → al k = 0)) ?_ ?_
        · rw [kz mk_tm]
          refine propext (bb_iff.trans ⟨fun h k hk hg => h k hk ?_, fun h k hk hg => h k hk ?_⟩)
          · simp at hg
            exact hg.symm
          · simp
            exact hg.symm
        · unfold j_Judge_yakuOfTiles_L211
          refine w_bitIf (y := 38) (by omega) ?_
          rw [lY_or]
          exact l232 _ k
    have l175 : ∀ d, d = (nsu al 3 == 1 && !bb (hon_ al) && bb (w = 0 ∧ nin_ al (lsu al 3))) → j_Judge_yakuOfTiles_L175 K (lY (kf al)) (nI (nsu al 3)) (bI d) (lY (fun j => ((one_ c 24 j || one_ (bb (∀ k, k < 34 → out_ k = false → al k = 0)) 25 j) || one_ (nsu al 3 == 1 && bb (hon_ al)) 28 j) || one_ (nsu al 3 == 1 && !bb (hon_ al)) 29 j)) m := by
      intro d hd
      unfold j_Judge_yakuOfTiles_L175
      refine w_bitIf (y := 31) (by omega) ?_
      rw [lY_or, hd]
      subst hc
      exact l190 _ k
    have l142 : ∀ d, d = (nsu al 3 == 1 && !bb (hon_ al)) → j_Judge_yakuOfTiles_L142 K (lY (kf al)) (nI (nsu al 3)) (nI (lsu al 3)) (bI b) (bI d) (lY (fun j => (one_ c 24 j || one_ (bb (∀ k, k < 34 → out_ k = false → al k = 0)) 25 j) || one_ (nsu al 3 == 1 && bb (hon_ al)) 28 j)) m := by
      intro d hd
      unfold j_Judge_yakuOfTiles_L142
      refine w_bitIf (y := 29) (by omega) ?_
      rw [lY_or, hd, show (nI (nsu al 3) = 1) = (nsu al 3 = 1) from pz_eq (b := 1) (by omega) (by omega), bI_0]
      refine ⟨fun h => l175 false (by simp [h]), fun h => ⟨fun h2 => l175 false ?_, fun h2 => ?_⟩⟩
      · rw [← hb, ts_nf h2]; simp
      · rw [show (9 : Int32) * nI (lsu al 3) = nI (9 * lsu al 3) from by
          have := (lsu_3 h).1
          rcases (show lsu al 3 = 0 ∨ lsu al 3 = 1 ∨ lsu al 3 = 2 by omega) with e | e | e <;> rw [e] <;> rfl]
        refine w_nineGates ga h4 g4 hw (lsu_3 h).1 (fun q => ⟨fun z => absurd z (by decide), fun _ => l175 true ?_⟩) (fun q => ⟨fun _ => l175 false ?_, fun z => absurd rfl z⟩)
        · rw [bb_t q, ← hb, h2]; simp [h]
        · rw [bb_f q]; simp
    have l121 : ∀ d, d = (nsu al 3 == 1 && bb (hon_ al)) → j_Judge_yakuOfTiles_L121 K (lY (kf al)) (nI (nsu al 3)) (nI (lsu al 3)) (bI b) (bI d) (lY (fun j => one_ c 24 j || one_ (bb (∀ k, k < 34 → out_ k = false → al k = 0)) 25 j)) m := by
      intro d hd
      unfold j_Judge_yakuOfTiles_L121
      refine w_bitIf (y := 28) (by omega) ?_
      rw [lY_or, hd, show (nI (nsu al 3) = 1) = (nsu al 3 = 1) from pz_eq (b := 1) (by omega) (by omega), bI_0]
      refine ⟨fun h => l142 false (by simp [h]), fun h => ⟨fun h2 => l142 false ?_, fun h2 => l142 true ?_⟩⟩
      · rw [← hb, ts_nf h2]; simp
      · rw [← hb, h2]; simp [h]
    refine ⟨fun h => l121 false (by simp [h]), fun h => ⟨fun h2 => l121 false ?_, fun h2 => l121 true ?_⟩⟩
    · rw [← hb, h2]; simp
    · rw [← hb, ts_nf h2]; simp [h]
  have main : ∀ n s, s + n = 3 → j_Judge_yakuOfTiles_L13 K (n + 1) (lY (kf al)) (nI (nsu al s)) (nI (lsu al s)) (nI s) m := by
    intro n
    induction n with
    | zero =>
      intro s hs
      have e : s = 3 := by omega
      subst e
      rw [j_Judge_yakuOfTiles_L13, show ((3 : Int32) ≤ nI 3) = True from propext ⟨fun _ => trivial, fun _ => by decide⟩]
      refine ⟨fun _ => ?_, fun z => absurd trivial z⟩
      refine fl_p (X := fun x => j_Judge_yakuOfTiles_L63 K (lY (kf al)) (nI (nsu al 3)) (nI (lsu al 3)) x m) (bb (hon_ al)) ?_ ?_
      · rw [kz mk_h]
        refine propext ⟨fun h k hk hg => ?_, fun h => bb_f (fun ⟨k, k1, k2, k3⟩ => ?_)⟩
        · refine Classical.byContradiction (fun z => ?_)
          simp [hk] at hg
          rw [bb_t ⟨k, hg, hk, by omega⟩] at h
          cases h
        · have := h k k2 (by simp [k1, k2])
          omega
      unfold j_Judge_yakuOfTiles_L63
      refine fl_n (X := fun x => j_Judge_yakuOfTiles_L80 K (lY (kf al)) (nI (nsu al 3)) (nI (lsu al 3)) (bI (bb (hon_ al))) x m) (bb (∀ k, k < 34 → out_ k = true → al k = 0)) ?_ (fin _ rfl _ rfl)
      rw [kz mk_o]
      refine propext (bb_iff.trans ⟨fun h k hk hg => h k hk ?_, fun h k hk hg => h k hk ?_⟩)
      · simp [hk] at hg; exact hg
      · simp [hk, hg]
    | succ n ih =>
      intro s hs
      rw [j_Judge_yakuOfTiles_L13, show ((3 : Int32) ≤ nI s) = (3 ≤ s) from pz_le (a := 3) (by omega) (by omega), show (9 : Int32) * nI s = nI (9 * s) from by
          rcases (show s = 0 ∨ s = 1 ∨ s = 2 by omega) with e | e | e <;> rw [e] <;> rfl, sz_s (by omega)]
      refine ⟨fun z => by omega, fun _ => ⟨fun h y hy => ?_, fun h y3 hy3 y hy => ?_⟩⟩
      · rw [hy, nI_1]
        have := ih (s + 1) (by omega)
        rw [nsu, lsu, if_neg (by rw [h]; decide), if_neg (by rw [h]; decide), Nat.add_zero] at this
        exact this
      · rw [hy, nI_1, hy3, nI_1]
        have := ih (s + 1) (by omega)
        rw [nsu, lsu, if_pos (ts_nf h), if_pos (ts_nf h)] at this
        exact this
  exact ⟨4, main 3 0 (by omega)⟩
