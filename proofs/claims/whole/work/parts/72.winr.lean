/-! THE REFERENCE PAYS THEM -/
theorem w_keep {p : Nat} {g a0 a1 a2 : Int32} {y : Int64} {m m0 : zm} {T : zS} {K : zm → Prop} (R : Rr m T m0) (hp : p < 4) (c0 : m.1 33 46 = a0) (c1 : m.1 33 47 = a1) (c2 : m.1 33 48 = a2) (c4 : m.2 33 49 = y) (k : ∀ m', Rr m' (ui (uy (ui (ui (ui (ui T 36 (4 * p + 0) a0) 36 (4 * p + 1) a1) 36 (4 * p + 2) a2) 36 (4 * p + 3) g) 0 p y) 30 p (T.2.1 30 p + g)) m0 → (∀ j, 46 ≤ j → m'.1 33 j = m.1 33 j) → K m') : j_Model_keep (nI p) g m K := by
  have e1 : (4 : Int32) * nI p + 1 = nI (4 * p + 1) := pz_4 p 1
  have e2 : (4 : Int32) * nI p + 2 = nI (4 * p + 2) := pz_4 p 2
  have e3 : (4 : Int32) * nI p + 3 = nI (4 * p + 3) := pz_4 p 3
  have e0 : (4 : Int32) * nI p = nI (4 * p + 0) := pz_4m p
  unfold j_Model_keep
  rw [e1, e2, e3, e0, nI_clamp (by omega), nI_clamp (by omega), nI_clamp (by omega), nI_clamp (by omega), nI_clamp (by omega), c0]
  refine ⟨pz_in (by omega) (by omega), fun m1 h1 => ⟨pz_in (by omega) (by omega), ?_⟩⟩
  have f1 : ∀ j, 46 ≤ j → m1.1 33 j = m.1 33 j := fun j hj => by rw [h1, pz_rI, if_neg (by omega)]
  have R := R.wi 36 (4 * p + 0) h1 (show 4 * p + 0 < 16 by omega) (by omega) rfl rfl
  rw [f1 47 (by omega), c1]
  refine fun m2 h2 => ⟨pz_in (by omega) (by omega), ?_⟩
  have f2 : ∀ j, 46 ≤ j → m2.1 33 j = m.1 33 j := fun j hj => by rw [h2, pz_rI, if_neg (by omega)]; exact f1 j hj
  have R := R.wi 36 (4 * p + 1) h2 (show 4 * p + 1 < 16 by omega) (by omega) rfl rfl
  rw [f2 48 (by omega), c2]
  refine fun m3 h3 => ⟨pz_in (by omega) (by omega), fun m4 h4 => ⟨pz_in hp (by omega), ?_⟩⟩
  have f3 : ∀ j, 46 ≤ j → m3.1 33 j = m.1 33 j := fun j hj => by rw [h3, pz_rI, if_neg (by omega)]; exact f2 j hj
  have R := R.wi 36 (4 * p + 2) h3 (show 4 * p + 2 < 16 by omega) (by omega) rfl rfl
  have f4 : ∀ j, 46 ≤ j → m4.1 33 j = m.1 33 j := fun j hj => by rw [h4, pz_rI, if_neg (by omega)]; exact f3 j hj
  have R := R.wi 36 (4 * p + 3) h4 (show 4 * p + 3 < 16 by omega) (by omega) rfl rfl
  have l4 : m4.2 33 49 = y := by rw [h4, pz_rI2, h3, pz_rI2, h2, pz_rI2, h1, pz_rI2, c4]
  rw [l4]
  intro m5 h5
  have R := R.wy hp h5
  have f5 : ∀ j, 46 ≤ j → m5.1 33 j = m.1 33 j := fun j hj => by rw [h5, pz_rL2]; exact f4 j hj
  refine ⟨pz_in hp (by omega), pz_in hp (by omega), ?_⟩
  rw [show m5.1 35 p = T.2.1 30 p from R.g30 hp]
  intro m6 h6
  have f6 : ∀ j, 46 ≤ j → m6.1 33 j = m.1 33 j := fun j hj => by rw [h6, pz_rI, if_neg (by omega)]; exact f5 j hj
  have R := R.wi 30 p h6 hp (by omega) rfl rfl
  exact k m6 R f6
theorem w_winByTile {d0 : Nat} {m m0 : zm} {S : zS} {K : zm → Prop} (J : Jg) (H : Wh S) (h1 : 1 ≤ d0) (h3 : d0 ≤ 3) (hf : S.1 10 ((S.1 14 0 + d0) % 4) = 4) (hm : ∀ e, 1 ≤ e → e < d0 → ¬ S.1 10 ((S.1 14 0 + e) % 4) = 4) (R : Rr m S m0) (k : ∀ m', Rr m' (ehS (wnS S ((S.1 14 0 + d0) % 4) (Xp S 4) true) (Xp S 4 (S.1 12 0)) false) m0 → K m') : j_Model_winByTile m K := by
  have B := H.1.1
  have b14 := B.b14 0
  have b12 := B.b12 0
  have b15 := B.b15 0
  have h27 := H.2.2.2.2.2.1
  have main : ∀ f, f = (S.1 14 0 + d0) % 4 → ∀ n i m, i + n = 4 → Rr m (wnS S f (Xp S i) false) m0 → j_Model_winByTile_L10 K (n + 1) (nI f) (bI (Xp S i (S.1 12 0))) (nI i) m := by
    intro f ef n
    have hf4 : f < 4 := by omega
    induction n with
    | zero =>
      intro i m hi R
      have e4 : i = 4 := by omega
      subst e4
      rw [j_Model_winByTile_L10, show ((4 : Int32) ≤ nI 4) = True from propext ⟨fun _ => trivial, fun _ => by decide⟩]
      refine ⟨fun _ => R.t35 (fun m1 R => ?_), fun z => absurd trivial z⟩
      rw [wn_z] at R
      have := w_end (st := Xp S 4 (S.1 12 0)) (mo := false) (K := fun m4 => K m4) R (wn_o H.o f _ _).1 (fun m2 R _ => k m2 (by rw [← ef]; exact R))
      rw [Bool.or_false] at this
      exact this
    | succ n ih =>
      intro i m hi R
      have hi4 : i < 4 := by omega
      have b10 := B.b10 i
      have skip : ¬ S.1 10 i = 4 → j_Model_winByTile_L152 (j_Model_winByTile_L10 K (n + 1)) K (nI f) (bI (Xp S i (S.1 12 0))) (nI i) m := by
        intro h y hy
        rw [hy, nI_1]
        have := ih (i + 1) m (by omega) (by rw [Xp_n h]; exact R)
        rw [Xp_n h] at this
        exact this
      rw [j_Model_winByTile_L10, show ((4 : Int32) ≤ nI i) = (4 ≤ i) from pz_le (a := 4) (by omega) (by omega), show m.1 33 4 = nI (S.1 14 0) from R.g14, pz_eq (by omega) (by omega), nI_clamp (by omega), show m.1 46 i = nI (S.1 10 i) from R.g10 hi4, show (nI (S.1 10 i) = 4) = (S.1 10 i = 4) from pz_eq (b := 4) (by omega) (by omega), show m.1 33 24 = nI (S.1 27 0) from R.g27, h27, show m.1 33 25 = nI (S.1 15 0) from R.g15]
      refine ⟨fun z => by omega, fun _ => ⟨fun h => skip (fun z => H.n14 hi4 (by omega) h), fun n14' => ⟨pz_in hi4 (by omega), skip, fun h => ?_⟩⟩⟩
      have n14 := H.n14 hi4 (by omega)
      have hy : ¬ (jd S i false).2.2.2 = 0 := by
        have an := H.2.2.2.2.2.2 i hi4
        unfold an_ at an
        rcases an with z | ⟨_, z | ⟨_, _, _, z | z | z⟩⟩
        · omega
        · exact z.2
        · omega
        · omega
        · omega
      have ej : Ej (wnS S f (Xp S i) false) S := fun a _ _ => rfl
      have jd1 := jd_c (p := i) (sd := false) ej
      have hX : Xp S i i = false := bb_f (fun z => by omega)
      have hXw := Xp_w H i
      refine J.2.1 (wnS S f (Xp S i) false) i false m m0 _ R ((wn_o H.o f _ false).j hi4) (fun m5 R hc => ?_)
      rw [jd1] at hc
      obtain ⟨c0, c1, c2, c4⟩ := hc hy
      have l130 : ∀ m10 x y, Rr m10 (ui (wnS S f (Xp S i) false) 30 (S.1 14 0) (S.2.1 30 (S.1 14 0) - smX S f (Xp S i) - due S f i)) m0 → (∀ j, 46 ≤ j → m10.1 33 j = m5.1 33 j) → m10.2 33 49 = m5.2 33 49 → y = due S f i → y + x = got_ S f i → j_Model_winByTile_L130 (j_Model_winByTile_L10 K (n + 1)) K (nI f) (bI (Xp S i (S.1 12 0))) (nI i) x y (nI i) m10 := by
        intro m10 x y R fr fl ey eg
        unfold j_Model_winByTile_L130
        rw [eg]
        refine w_keep R hi4 ((fr 46 (by omega)).trans c0) ((fr 47 (by omega)).trans c1) ((fr 48 (by omega)).trans c2) (fl.trans c4) (fun m11 R _ => ?_)
        have R := (((R.xi 33 (4 * i + 0) (nI (jd S i false).2.1) (fun _ h => h)).xi 33 (4 * i + 1) (nI (jd S i false).2.2.1) (fun _ h => h)).xi 33 (4 * i + 2) (nI (jd S i false).1) (fun _ h => h)).xi 33 (4 * i + 3) (got_ S f i) (fun _ h => h)
        have R : Rr m11 (wnS S f (ins (Xp S i) i) false) m0 := by
          refine Eq.mp (congrArg (fun T => Rr m11 T m0) ?_) R
          refine wn_s hi4 n14 hX hXw rfl (fun a j => ?_) (fun a j => rfl)
          simp only [ui_2, uy_2]
          by_cases a30 : a = 30
          · subst a30
            have e30p : (wnS S f (Xp S i) false).2.1 30 i = S.2.1 30 i := by
              show (if 30 = 30 ∧ i = S.1 14 0 then _ else if 30 = 30 ∧ Xp S i i = true then _ else if (30 = 33 ∨ 30 = 36) ∧ _ then _ else if 30 = 35 ∧ _ then _ else _) = _
              rw [if_neg (fun z => n14 z.2), if_neg (by rw [hX]; simp), if_neg (by omega), if_neg (by omega)]
            by_cases j1 : j = S.1 14 0
            · subst j1
              have n14s : ¬ S.1 14 0 = i := fun h => n14 h.symm
              simp [n14, n14s]
            · by_cases j2 : j = i
              · subst j2
                simp [e30p, n14]
              · simp [j1, j2]
          · by_cases a33 : a = 33
            · subst a33
              by_cases jp : j / 4 = i
              · rcases (show j = 4 * i + 0 ∨ j = 4 * i + 1 ∨ j = 4 * i + 2 ∨ j = 4 * i + 3 by omega) with e | e | e | e <;> subst e
                · simp [val_, show (4 * i) / 4 = i by omega]
                · simp [val_, show (4 * i + 1) / 4 = i by omega, show (4 * i + 1) % 4 = 1 by omega]
                · simp [val_, show (4 * i + 2) / 4 = i by omega, show (4 * i + 2) % 4 = 2 by omega]
                · simp [val_, show (4 * i + 3) / 4 = i by omega, show (4 * i + 3) % 4 = 3 by omega]
              · have n0 : ¬ j = 4 * i := by omega
                have n1 : ¬ j = 4 * i + 1 := by omega
                have n2 : ¬ j = 4 * i + 2 := by omega
                have n3 : ¬ j = 4 * i + 3 := by omega
                simp [jp, n0, n1, n2, n3]
            · by_cases a36 : a = 36
              · subst a36
                by_cases jp : j / 4 = i
                · rcases (show j = 4 * i + 0 ∨ j = 4 * i + 1 ∨ j = 4 * i + 2 ∨ j = 4 * i + 3 by omega) with e | e | e | e <;> subst e
                  · simp [val_, show (4 * i) / 4 = i by omega]
                  · simp [val_, show (4 * i + 1) / 4 = i by omega, show (4 * i + 1) % 4 = 1 by omega]
                  · simp [val_, show (4 * i + 2) / 4 = i by omega, show (4 * i + 2) % 4 = 2 by omega]
                  · simp [val_, show (4 * i + 3) / 4 = i by omega, show (4 * i + 3) % 4 = 3 by omega]
                · have n0 : ¬ j = 4 * i := by omega
                  have n1 : ¬ j = 4 * i + 1 := by omega
                  have n2 : ¬ j = 4 * i + 2 := by omega
                  have n3 : ¬ j = 4 * i + 3 := by omega
                  simp [jp, n0, n1, n2, n3]
              · simp [a30, a33, a36]
        rw [← Xp_s h] at R
        have ei := ins_d (Xp S i) i (S.1 12 0)
        rw [← Xp_s h] at ei
        have nx : ∀ x, x = bI (Xp S (i + 1) (S.1 12 0)) → j_Model_winByTile_L151 (j_Model_winByTile_L10 K (n + 1)) K (nI f) (nI i) x m11 := by
          intro x hx y hy
          rw [hy, nI_1, hx]
          exact ih (i + 1) m11 (by omega) R
        rw [show m11.1 33 5 = nI (S.1 12 0) from R.g12, pz_eq (by omega) (by omega)]
        refine ⟨fun q => nx 1 ?_, fun q => ⟨fun q2 => nx 0 ?_, fun q2 => nx 1 ?_⟩⟩
        · rw [ei, bI_1 q]; rfl
        · rw [bI_0] at q
          rw [ei, q, decide_eq_false q2]; rfl
        · rw [ei, decide_eq_true q2, Bool.or_true]; rfl
      have l92 : ∀ x r, r + x = due S f i → j_Model_winByTile_L92 (j_Model_winByTile_L10 K (n + 1)) K (nI f) (bI (Xp S i (S.1 12 0))) (nI i) x r m5 := by
        intro x r hx y hy
        rw [hx] at hy
        subst hy
        have e30 : (wnS S f (Xp S i) false).2.1 30 (S.1 14 0) = S.2.1 30 (S.1 14 0) - smX S f (Xp S i) := if_pos ⟨rfl, rfl⟩
        rw [show m5.1 33 4 = nI (S.1 14 0) from R.g14, nI_clamp (by omega), R.g30 (by omega), e30]
        refine ⟨pz_in (by omega) (by omega), pz_in (by omega) (by omega), fun m10 h10 => ?_⟩
        have fr : ∀ j, 46 ≤ j → m10.1 33 j = m5.1 33 j := fun j hj => by rw [h10, pz_rI, if_neg (by omega)]
        have fl : m10.2 33 49 = m5.2 33 49 := by rw [h10, pz_rI2]
        have R := R.wi 30 (S.1 14 0) h10 (show S.1 14 0 < 4 by omega) (by omega) rfl rfl
        rw [pz_eq (by omega) (by omega), show m10.1 33 8 = S.2.1 35 0 from R.g35]
        refine ⟨fun q => l130 m10 _ _ R fr fl rfl ?_, fun q => l130 m10 _ _ R fr fl rfl ?_⟩
        · unfold got_
          rw [if_neg q]
        · unfold got_
          rw [if_pos q]
      have l72 : ∀ t0 : Int32, t0 = (if i = S.1 12 0 then 6 else 4) * nI (jd S i false).1 → j_Model_winByTile_L72 (j_Model_winByTile_L10 K (n + 1)) K (nI f) (bI (Xp S i (S.1 12 0))) (nI i) t0 m5 := by
        intro t0 ht
        unfold j_Model_winByTile_L72 j_Model_rounded
        dsimp only
        rw [pz_eq (by omega) (by omega), show m5.1 33 7 = S.2.1 34 0 from R.g34, ht]
        refine ⟨fun q => l92 _ _ ?_, fun q => l92 _ _ ?_⟩
        · unfold due hund
          rw [if_neg (c := i = f) q]
        · unfold due hund
          rw [if_pos (c := i = f) q]
      rw [show m5.1 33 5 = nI (S.1 12 0) from R.g12, pz_eq (by omega) (by omega), c2]
      exact ⟨fun q => l72 _ (by rw [if_neg q]), fun q => l72 _ (by rw [if_pos q])⟩
  refine w_answered (w := 4) R B (by omega) (fun d hd1 hd2 hd3 hd4 => ?_) (fun z => absurd hf (z d0 h1 h3))
  have ed : d = d0 := by
    rcases (show d < d0 ∨ d = d0 ∨ d0 < d by omega) with q | q | q
    · exact absurd hd3 (hm d hd1 q)
    · exact q
    · exact absurd hf (hd4 d0 h1 q)
  subst ed
  have e0 : ∀ j, Xp S 0 j = false := fun j => bb_f (fun z => by omega)
  refine ⟨5, ?_⟩
  have := main _ rfl 4 0 m (by omega) (by rw [(wn_0 S _ e0).2]; exact R)
  rw [e0] at this
  exact this
theorem h_won {S : zS} (J : Jg) (H : Wh S) (hx : ∃ p, p < 4 ∧ S.1 10 p = 4) : ∃ S', Wf S' ∧ Cst j_Table_payForTile S S' ∧ Rst j_Model_winByTile S S' := by
  obtain ⟨d0, h1, h3, hf, hm⟩ := ex_f H hx
  refine ⟨_, Wf_eh (st := Xp S 4 (S.1 12 0)) (mo := false) (wn_Wg J H ((S.1 14 0 + d0) % 4)) (fun p hp => Or.inl (H.2.1 p hp)), ?_, ?_⟩
  · exact fun m m0 K R k => w_payForTile J H h1 h3 hf hm R k
  · exact fun m m0 K R k => w_winByTile J H h1 h3 hf hm R k
