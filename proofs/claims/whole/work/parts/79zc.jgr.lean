/-! THE REFERENCE'S JUDGE -/
theorem l4w : ∀ w, w < 5 → (4 : Int32) - nI w = nI (4 - w) := by decide +kernel
theorem w_L160 {S : zS} {p : Nat} {sd : Bool} {a1 a2 a3 a4 : Int32} {m m0 : zm} {u : zV} {K : Int32 → zm → Prop} (W : Wj S p sd) (kk : ∀ m' u', Rr m' S m0 → Hq m' u' → Gr (Rdv S p sd) u' → K (yb u') m') (F : Fr m S m0 p sd) (H : Hq m u) (G : Gr (O1 S p sd) u) : j_Model_worthy_L160 a1 a2 a3 a4 K (nI (4 - S.1 2 p)) (lY (fun j => hb_ S p sd j || tb_ (ac S p sd) (S.1 2 p) j)) m := by
  have b2 := W.1.b2 p
  have c26 : (67108864 : Int64) = lY (fun j => j == 26) := by decide +kernel
  have hd : dor S p (ac S p sd) (S.1 17 0 + 1) < 500 := by
    have := dor_le (S := S) (p := p) W.a4 (S.1 17 0 + 1)
    have := W.1.b17 0
    omega
  have l185 : ∀ m1 u1, eqX m m1 → Hq m1 u1 → Gr (O2 S p sd) u1 → j_Model_worthy_L185 a1 a2 a3 a4 K (nI (4 - S.1 2 p)) (lY (fun j => hb_ S p sd j || tb_ (ac S p sd) (S.1 2 p) j)) m1 := by
    intro m1 u1 E H1 G1 m2 h2
    refine ⟨_, w_L190 W kk 34 0 m2 u1 rfl (F.x (E.tr (by rw [h2]; exact eqX.i (by omega)))) (by rw [h2, pz_rI, if_pos ⟨rfl, rfl⟩]; rfl) (by rw [h2]; exact H1.i (by omega)) (G1.c (fun v => ⟨fun z => Or.inl z, fun z => z.elim id (fun ⟨_, q, k, a, h, _⟩ => by omega)⟩))⟩
  unfold j_Model_worthy_L160
  rw [show (nI (4 - S.1 2 p) = 4) = (4 - S.1 2 p = 4) from pz_eq (b := 4) (by omega) (by omega)]
  have pa : pA m 50 (ec S p sd) := fun k hk => ⟨F.2.2.2.2.1 k hk, by have := W.e4 k; omega⟩
  refine ⟨fun z => l185 m u eqX.rf H (G.c (fun v => ⟨fun h => Or.inl h, fun h => h.elim id (fun y => by have := y.2.1; omega)⟩)), fun z => w_Model_isPairs pa (fun h7 => ⟨fun y => absurd y (by decide), fun _ => ?_⟩) (fun h7 => ⟨fun _ => l185 m u eqX.rf H (G.c (fun v => ⟨fun h => Or.inl h, fun h => h.elim id (fun y => absurd y.2.2.1 h7)⟩)), fun y => absurd rfl y⟩)⟩
  have w0 : S.1 2 p = 0 := by omega
  rw [c26, lY_or]
  refine w_judge (fu := 25) F.1 W.1 W.2.1 W.2.2.2.1 F.2.1 F.2.2.2.2.2 rfl rfl hd (by omega) H (fun m1 e1 h1 => l185 m1 _ e1.X h1 ((Gr.up G).c (fun v => ?_)))
  unfold O2
  constructor
  · rintro (a | ⟨a, b⟩)
    · exact Or.inl a
    · exact Or.inr ⟨by rw [a]; exact b, w0, h7, a⟩
  · rintro (a | ⟨a, _, _, b⟩)
    · exact Or.inl a
    · exact Or.inr ⟨b, by rw [b] at a; exact a⟩
theorem w_worthy {S : zS} {p : Nat} {sd : Bool} {m m0 : zm} {K : Int32 → zm → Prop} (W : Wj S p sd) (R : Rr m S m0) (kk : ∀ m' u', Rr m' S m0 → Hq m' u' → Gr (Rdv S p sd) u' → K (yb u') m') : j_Model_worthy (nI p) (nI (til S)) (bI sd) (bI (!sd && S.1 15 0 == 1)) m K := by
  have W' := W
  obtain ⟨B, M, r, hp, h21, hs, ha, hl, he, hsd⟩ := W
  have b2 := B.b2 p
  have b21 := B.b21 0
  have t34 : til S < 34 := by unfold til; omega
  have c30 : (1073741824 : Int64) = lY (fun j => j == 30) := by decide +kernel
  have hd : dor S p (ac S p sd) (S.1 17 0 + 1) < 500 := by
    have := dor_le (S := S) (p := p) W'.a4 (S.1 17 0 + 1)
    have := B.b17 0
    omega
  intro m1 h1 m2 h2
  refine ⟨isB_b sd, fun m3 h3 => ⟨isB_b _, fun m4 h4 m5 h5 m6 h6 m7 h7 m8 h8 => ?_⟩⟩
  have E8 : eqF m m8 := by
    rw [h8, h7, h6, h5, h4, h3, h2, h1]
    exact ((((((((eqF.rf.w (Or.inr ⟨rfl, by omega⟩) _).w (Or.inr ⟨rfl, by omega⟩) _).w (Or.inr ⟨rfl, by omega⟩) _).w (Or.inr ⟨rfl, by omega⟩) _).w (Or.inr ⟨rfl, by omega⟩) _).w (Or.inr ⟨rfl, by omega⟩) _).w (Or.inr ⟨rfl, by omega⟩) _).wL (Or.inr ⟨rfl, by omega⟩) _)
  have R8 := R.keep E8
  have g32 : m8.1 33 32 = nI p := by rw [h8, pz_rL2, h7, pz_rI, if_neg (by omega), h6, pz_rI, if_neg (by omega), h5, pz_rI, if_neg (by omega), h4, pz_rI, if_neg (by omega), h3, pz_rI, if_neg (by omega), h2, pz_rI, if_neg (by omega), h1, pz_rI, if_pos ⟨rfl, rfl⟩]
  have g33 : m8.1 33 33 = nI (til S) := by rw [h8, pz_rL2, h7, pz_rI, if_neg (by omega), h6, pz_rI, if_neg (by omega), h5, pz_rI, if_neg (by omega), h4, pz_rI, if_neg (by omega), h3, pz_rI, if_neg (by omega), h2, pz_rI, if_pos ⟨rfl, rfl⟩]
  have g34 : m8.1 33 34 = bI sd := by rw [h8, pz_rL2, h7, pz_rI, if_neg (by omega), h6, pz_rI, if_neg (by omega), h5, pz_rI, if_neg (by omega), h4, pz_rI, if_neg (by omega), h3, pz_rI, if_pos ⟨rfl, rfl⟩]
  have g35 : m8.1 33 35 = bI (!sd && S.1 15 0 == 1) := by rw [h8, pz_rL2, h7, pz_rI, if_neg (by omega), h6, pz_rI, if_neg (by omega), h5, pz_rI, if_neg (by omega), h4, pz_rI, if_pos ⟨rfl, rfl⟩]
  have H8 : Hq m8 (0, 0, 0, 0) := by
    refine ⟨⟨by decide, by decide, by decide, by decide⟩, ?_, ?_, ?_, ?_⟩
    · rw [h8, pz_rL2, h7, pz_rI, if_neg (by omega), h6, pz_rI, if_neg (by omega), h5, pz_rI, if_pos ⟨rfl, rfl⟩]; rfl
    · rw [h8, pz_rL2, h7, pz_rI, if_neg (by omega), h6, pz_rI, if_pos ⟨rfl, rfl⟩]; rfl
    · rw [h8, pz_rL2, h7, pz_rI, if_pos ⟨rfl, rfl⟩]; rfl
    · rw [h8, pz_rL, if_pos ⟨rfl, rfl⟩]; rfl
  refine ⟨pz_in (by omega) (by omega), fun y hy => ?_⟩
  rw [nI_clamp (by omega), R8.g2 hp, l4w _ (by omega)] at hy
  subst hy
  have l62 : ∀ x : Int32, (∀ k, k < 34 → ((if sd = false ∧ k = til S then 1 else 0) ≤ 1 ∧ (nI k = x ↔ (if sd = false ∧ k = til S then 1 else 0) = 1))) → j_Model_worthy_L62 (nI p) (nI (til S)) (bI sd) (bI (!sd && S.1 15 0 == 1)) K (nI (4 - S.1 2 p)) x (nI p) m8 := by
    intro x hx
    unfold j_Model_worthy_L62
    refine w_load2 (a := fun k => if sd = false ∧ k = til S then 1 else 0) hp (R8.rP B M hp) hx (fun m9 f1 f2 f3 => ?_)
    have es : csum (fun k => cf S p k + (if sd = false ∧ k = til S then 1 else 0)) 34 = 3 * (4 - S.1 2 p) + 2 := W'.es
    have m3w : ∀ x, x < 5 → (3 : Int32) * nI x + 2 = nI (3 * x + 2) := by decide +kernel
    rw [es, m3w _ (by omega), show (nI (3 * (4 - S.1 2 p) + 2) = nI (3 * (4 - S.1 2 p) + 2)) = True from propext ⟨fun _ => trivial, fun _ => rfl⟩]
    refine ⟨fun _ => ?_, fun z => absurd trivial z⟩
    have main : ∀ n k mk, k + n = 34 → (∀ q j, ¬ (q = 50 ∨ q = 51) → mk.1 q j = m8.1 q j) → mk.2 = m8.2 → (∀ j, j < 34 → mk.1 50 j = nI (ec S p sd j)) → (∀ j, j < k → mk.1 51 j = nI (ac S p sd j)) → j_Model_worthy_L79 (nI p) (nI (til S)) (bI sd) (bI (!sd && S.1 15 0 == 1)) K (n + 1) (nI (4 - S.1 2 p)) (nI k) mk := by
      intro n
      induction n with
      | zero =>
        intro k mk hk e1 e2 e50 e51
        have e : k = 34 := by omega
        subst e
        have Ek : eqF m8 mk := fun q j hn => ⟨e1 q j (fun z => hn (Or.inl (by omega))), by rw [e2]⟩
        have Rk := R8.keep Ek
        have F : Fr mk S m0 p sd := ⟨Rk, by rw [e1 33 32 (by omega), g32], by rw [e1 33 33 (by omega), g33], by rw [e1 33 34 (by omega), g34], e50, e51⟩
        have Hk : Hq mk (0, 0, 0, 0) := by
          unfold Hq at H8 ⊢
          rw [e1 33 46 (by omega), e1 33 47 (by omega), e1 33 48 (by omega), e2]
          exact H8
        have hpn : ∀ {K' : Int64 → zm → Prop}, K' (lY (hb_ S p sd)) mk → j_Model_happened mk K' := fun k' => w_happened Rk B M hp F.2.1 F.2.2.2.1 (by rw [e1 33 35 (by omega), g35]) hl he hsd k'
        have none_ : ¬ (S.1 2 p = 0 ∧ ∀ k, k < 34 → (decide (0 < ec S p sd k)) = out_ k) → Gr (O1 S p sd) (0, 0, 0, 0) := fun hn => Gr.e.c (fun v => ⟨fun h => absurd h id, fun h => hn ⟨h.2.1, h.2.2.1⟩⟩)
        have pa : pA mk 50 (ec S p sd) := fun k hk => ⟨e50 k hk, by have := W'.e4 k; omega⟩
        rw [j_Model_worthy_L79, show ((34 : Int32) ≤ nI 34) = True from propext ⟨fun _ => trivial, fun _ => by decide⟩]
        refine ⟨fun _ => hpn (w_ofTiles e51 W'.a4 F.2.1 hp (Rk.g2 hp) b2 (fun y hy => ?_)), fun z => absurd trivial z⟩
        rw [lY_or] at hy
        subst hy
        rw [show (nI (4 - S.1 2 p) = 4) = (4 - S.1 2 p = 4) from pz_eq (b := 4) (by omega) (by omega)]
        refine ⟨fun z => w_L160 W' kk F Hk (none_ (fun y => by have := y.1; omega)), fun z => w_Model_isOrphans pa (fun ho => ⟨fun y => absurd y (by decide), fun _ => hpn ?_⟩) (fun ho => ⟨fun _ => w_L160 W' kk F Hk (none_ (fun y => ho y.2)), fun y => absurd rfl y⟩)⟩
        have w0 : S.1 2 p = 0 := by omega
        rw [c30, lY_or]
        refine w_judge (fu := 30) Rk B M hp F.2.1 e51 rfl rfl hd (by omega) Hk (fun m1 k1 h1 => w_L160 W' kk (F.x k1.X) h1 ((Gr.up Gr.e).c (fun v => ?_)))
        constructor
        · rintro (a | ⟨a, b⟩)
          · exact absurd a id
          · exact ⟨by rw [a]; exact b, w0, ho, a⟩
        · rintro ⟨a, _, _, b⟩
          exact Or.inr ⟨b, by rw [b] at a; exact a⟩
      | succ n ih =>
        intro k mk hk e1 e2 e50 e51
        have hk34 : k < 34 := by omega
        have Ek : eqF m8 mk := fun q j hn => ⟨e1 q j (fun z => hn (Or.inl (by omega))), by rw [e2]⟩
        have Rk := R8.keep Ek
        have l114 : ∀ t, t = (if sd = false ∧ k = til S then 1 else 0) → j_Model_worthy_L114 (nI p) (nI (til S)) (bI sd) (bI (!sd && S.1 15 0 == 1)) (j_Model_worthy_L79 (nI p) (nI (til S)) (bI sd) (bI (!sd && S.1 15 0 == 1)) K (n + 1)) K (nI (4 - S.1 2 p)) (nI k) (nI t) (nI (own_ (cf S p) (mf S p) (S.1 2 p) k)) (nI k) mk := by
          intro t ht
          refine ⟨pz_in (by omega) (by omega), fun mk' h' y hy => ?_⟩
          rw [nI_clamp (by omega), nI_add] at h'
          rw [hy, nI_1]
          refine ih (k + 1) mk' (by omega) (fun q j hn => ?_) ?_ (fun j hj => ?_) (fun j hj => ?_)
          · rw [h', pz_rI, if_neg (fun z => hn (Or.inr z.1))]; exact e1 q j hn
          · rw [h', pz_rI2]; exact e2
          · rw [h', pz_rI, if_neg (by omega)]; exact e50 j hj
          · rw [h', pz_rI]
            by_cases q : j = k
            · rw [if_pos ⟨rfl, q⟩, q, ht]; rfl
            · rw [if_neg (fun z => q z.2)]; exact e51 j (by omega)
        rw [j_Model_worthy_L79, show ((34 : Int32) ≤ nI k) = (34 ≤ k) from pz_le (a := 34) (by omega) (by omega)]
        refine ⟨fun z => by omega, fun _ => w_Model_held hp hk34 (Rk.rP B M hp) ?_⟩
        rw [bI_0, pz_eq (by omega) (by omega)]
        exact ⟨fun h => l114 0 (if_neg (fun z => h z.1)).symm, fun h => ⟨fun h2 => l114 0 (if_neg (fun z => h2 z.2)).symm, fun h2 => l114 1 (if_pos ⟨h, h2⟩).symm⟩⟩
    exact ⟨_, main 34 0 m9 rfl (fun q j hn => f1 q j (fun z => hn (Or.inl z))) f2 f3 (fun j hj => by omega)⟩
  rw [bI_0]
  refine ⟨fun h => l62 _ (fun k hk => ⟨by split <;> omega, ?_⟩), fun h => l62 _ (fun k hk => ⟨by split <;> omega, ?_⟩)⟩
  · rw [pz_eq (by omega) (by omega)]
    by_cases q : k = til S
    · rw [if_pos ⟨h, q⟩]; exact ⟨fun _ => rfl, fun _ => q⟩
    · rw [if_neg (fun z => q z.2)]; exact ⟨fun z => absurd z q, fun z => by omega⟩
  · rw [if_neg (fun z => h z.1)]
    refine ⟨fun z => ?_, fun z => by omega⟩
    have := nI_pos' (show k < 2 ^ 31 by omega)
    rw [z] at this
    exact absurd this (by decide)
theorem jgR : JgR := by
  intro S p sd m m0 K R W k
  have b15 := W.1.b15 0
  have ea : (if sd = true then (1 : Int32) else 0) = bI sd := by cases sd <;> rfl
  have eb : (if sd = true then (0 : Int32) else nI (S.1 15 0)) = bI (!sd && S.1 15 0 == 1) := by
    cases sd with
    | true => rfl
    | false =>
      rw [if_neg (by decide), bI_nb (by omega)]
      rfl
  rw [ea, eb]
  refine w_worthy W R (fun m' u R' H' G' => ?_)
  have e := jd_eq G'
  rw [← e]
  refine k m' R' ?_
  rw [e]
  exact fun _ => H'.2
