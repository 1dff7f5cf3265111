/-! WHAT HAPPENED, AND DORA -/
theorem ix42 {P : Nat → Prop} (h0 : P 0) (h1 : P 1) (h2 : P 2) (h3 : P 3) (h4 : P 4) (h5 : P 5) (h6 : P 6) (h7 : P 7) (h8 : P 8) (h9 : P 9) (h10 : P 10) (h11 : P 11) (h12 : P 12) (h13 : P 13) (h14 : P 14) (h15 : P 15) (h16 : P 16) (h17 : P 17) (h18 : P 18) (h19 : P 19) (h20 : P 20) (h21 : P 21) (h22 : P 22) (h23 : P 23) (h24 : P 24) (h25 : P 25) (h26 : P 26) (h27 : P 27) (h28 : P 28) (h29 : P 29) (h30 : P 30) (h31 : P 31) (h32 : P 32) (h33 : P 33) (h34 : P 34) (h35 : P 35) (h36 : P 36) (h37 : P 37) (h38 : P 38) (h39 : P 39) (h40 : P 40) (h41 : P 41) : ∀ y, y < 42 → P y
  | 0, _ => h0
  | 1, _ => h1
  | 2, _ => h2
  | 3, _ => h3
  | 4, _ => h4
  | 5, _ => h5
  | 6, _ => h6
  | 7, _ => h7
  | 8, _ => h8
  | 9, _ => h9
  | 10, _ => h10
  | 11, _ => h11
  | 12, _ => h12
  | 13, _ => h13
  | 14, _ => h14
  | 15, _ => h15
  | 16, _ => h16
  | 17, _ => h17
  | 18, _ => h18
  | 19, _ => h19
  | 20, _ => h20
  | 21, _ => h21
  | 22, _ => h22
  | 23, _ => h23
  | 24, _ => h24
  | 25, _ => h25
  | 26, _ => h26
  | 27, _ => h27
  | 28, _ => h28
  | 29, _ => h29
  | 30, _ => h30
  | 31, _ => h31
  | 32, _ => h32
  | 33, _ => h33
  | 34, _ => h34
  | 35, _ => h35
  | 36, _ => h36
  | 37, _ => h37
  | 38, _ => h38
  | 39, _ => h39
  | 40, _ => h40
  | 41, _ => h41
  | n + 42, h => absurd h (by omega)
theorem fl_n {c : Prop} {X : Int32 → Prop} (b : Bool) (h : (b = true) = c) (x : X (bI b)) : (¬ c → X 0) ∧ (c → X 1) := by
  subst h
  cases b
  · exact ⟨fun _ => x, fun z => by cases z⟩
  · exact ⟨fun z => absurd rfl z, fun _ => x⟩
theorem fl_p {c : Prop} {X : Int32 → Prop} (b : Bool) (h : (b = false) = c) (x : X (bI b)) : (c → X 0) ∧ (¬ c → X 1) := by
  subst h
  cases b
  · exact ⟨fun _ => x, fun z => absurd rfl z⟩
  · exact ⟨fun z => absurd z (by decide), fun _ => x⟩
theorem bI_nb {v : Nat} (h : v ≤ 1) : nI v = bI (v == 1) := by
  rcases (show v = 0 ∨ v = 1 by omega) with e | e <;> subst e <;> rfl
theorem beq_p {a b : Nat} : ((a == b) = true) = (a = b) := by simp
theorem beq_f {a b : Nat} : ((a == b) = false) = ¬ (a = b) := by simp
theorem w_yRiichi {p : Nat} {m m0 : zm} {S : zS} {K : Int64 → zm → Prop} (R : Rc m S m0) (B : Bd S) (hp : p < 4) (hr : S.1 7 p = 1 → ¬ S.1 6 p = 0) (k : K (lY (fun j => (one_ (S.1 6 p == 1) 0 j || one_ (S.1 6 p == 2) 1 j) || one_ (S.1 7 p == 1) 2 j)) m) : j_Table_yakuOfRiichi (13 + 5 * p) m K := by
  have b6 := B.b6 p
  have b7 := B.b7 p
  unfold j_Table_yakuOfRiichi
  refine fl_n (X := fun x => j_Table_yakuOfRiichi_L13 (13 + 5 * p) K x m) (S.1 6 p == 1) ?_ ?_
  · rw [R.g6 hp, beq_p, show (nI (S.1 6 p) = 1) = (S.1 6 p = 1) from pz_eq (b := 1) (by omega) (by omega)]
  unfold j_Table_yakuOfRiichi_L13
  refine w_bitIf (y := 0) (by omega) ?_
  refine fl_n (X := fun x => j_Table_yakuOfRiichi_L30 (13 + 5 * p) K x (lY (one_ (S.1 6 p == 1) 0)) m) (S.1 6 p == 2) ?_ ?_
  · rw [R.g6 hp, beq_p, show (nI (S.1 6 p) = 2) = (S.1 6 p = 2) from pz_eq (b := 2) (by omega) (by omega)]
  unfold j_Table_yakuOfRiichi_L30
  refine w_bitIf (y := 1) (by omega) ?_
  rw [lY_or, R.g6 hp, R.g7 hp, pz_0 (by omega), pz_0 (by omega)]
  have l54 : ∀ b, b = (S.1 7 p == 1) → j_Table_yakuOfRiichi_L54 (13 + 5 * p) K (bI b) (lY (fun j => one_ (S.1 6 p == 1) 0 j || one_ (S.1 6 p == 2) 1 j)) m := by
    intro b hb
    unfold j_Table_yakuOfRiichi_L54
    rw [hb]
    refine w_bitIf (y := 2) (by omega) ?_
    rw [lY_or]
    exact k
  refine ⟨fun h => l54 false ?_, fun h => ⟨fun h2 => l54 false ?_, fun h2 => l54 true ?_⟩⟩
  · have : ¬ S.1 7 p = 1 := fun z => hr z h
    simp [this]
  · simp [h2]
  · have : S.1 7 p = 1 := by omega
    simp [this]
theorem w_yTile {m m0 : zm} {S : zS} {K : Int64 → zm → Prop} (R : Rc m S m0) (B : Bd S) (hl : S.1 20 0 + S.1 17 0 ≤ 122) (k : K (lY (fun j => one_ (S.1 15 0 == 1) 5 j || one_ (S.1 15 0 == 0 && lft S == 0) 7 j)) m) : j_Table_yakuOfTile m K := by
  have b15 := B.b15 0
  have hlf : lft S ≤ 122 := by unfold lft; omega
  unfold j_Table_yakuOfTile
  rw [R.g15, bI_nb b15]
  refine w_bitIf (y := 5) (by omega) ?_
  rw [R.g15, pz_0 (by omega)]
  have l30 : ∀ b, b = (S.1 15 0 == 0 && lft S == 0) → j_Table_yakuOfTile_L30 K (bI b) (lY (one_ (S.1 15 0 == 1) 5)) m := by
    intro b hb
    unfold j_Table_yakuOfTile_L30
    rw [hb]
    refine w_bitIf (y := 7) (by omega) ?_
    rw [lY_or]
    exact k
  refine ⟨fun h => l30 false (by simp [h]), fun h => w_countLeft R hl ?_⟩
  rw [pz_0 (by omega)]
  exact ⟨fun h2 => l30 false (by simp [h2]), fun h2 => l30 true (by simp [h, h2])⟩
theorem w_yDraw {p : Nat} {m m0 : zm} {S : zS} {K : Int64 → zm → Prop} (R : Rc m S m0) (B : Bd S) (hp : p < 4) (hl : S.1 20 0 + S.1 17 0 ≤ 122) (k : K (lY (fun j => (((one_ (bb (cls S p)) 3 j || one_ (S.1 18 0 == 1) 4 j) || one_ (S.1 18 0 == 0 && lft S == 0) 6 j) || one_ (S.1 4 p == 0 && S.1 16 0 == 0 && p == S.1 12 0) 40 j) || one_ (S.1 4 p == 0 && S.1 16 0 == 0 && !(p == S.1 12 0)) 41 j)) m) : j_Table_yakuOfDraw (nI p) m K := by
  have b4 := B.b4 p
  have b16 := B.b16 0
  have b18 := B.b18 0
  have b12 := B.b12 0
  have hlf : lft S ≤ 122 := by unfold lft; omega
  have l24 : ∀ b, b = (S.1 4 p == 0 && S.1 16 0 == 0) → j_Table_yakuOfDraw_L24 (nI p) K (bI b) m := by
    intro b hb
    unfold j_Table_yakuOfDraw_L24
    rw [nI_clamp (by omega)]
    refine ⟨pz_in hp (by omega), ?_⟩
    have cc : ∀ c, c = bb (cls S p) → j_Judge_bitIf (bI c) 3 m (fun r6 m5 => (j_Judge_bitIf (m5.1 0 10) 4 m5 (fun r8 m7 => ((¬ (m7.1 0 10) = 0 → (j_Table_yakuOfDraw_L68 (nI p) K (bI b) (r6 ||| r8) m7)) ∧ ((m7.1 0 10) = 0 → (j_Wall_countLeft m7 (fun r10 m9 => ((¬ r10 = 0 → (j_Table_yakuOfDraw_L68 (nI p) K (bI b) (r6 ||| r8) m9)) ∧ (r10 = 0 → (j_Table_yakuOfDraw_L69 (nI p) K (bI b) 1 (r6 ||| r8) m9))))))))) ) := by
      intro c hc
      refine w_bitIf (y := 3) (by omega) ?_
      rw [R.g18, bI_nb b18]
      refine w_bitIf (y := 4) (by omega) ?_
      rw [lY_or, hc, R.g18, pz_0 (by omega)]
      have l115 : ∀ d, d = (S.1 4 p == 0 && S.1 16 0 == 0 && !(p == S.1 12 0)) → ∀ F, K (lY (fun j => F j || one_ (S.1 4 p == 0 && S.1 16 0 == 0 && !(p == S.1 12 0)) 41 j)) m → j_Table_yakuOfDraw_L115 (nI p) K (bI d) (lY F) m := by
        intro d hd F k
        unfold j_Table_yakuOfDraw_L115
        rw [hd]
        refine w_bitIf (y := 41) (by omega) ?_
        rw [lY_or]
        exact k
      have l92 : ∀ d, d = (S.1 4 p == 0 && S.1 16 0 == 0 && p == S.1 12 0) → ∀ F, K (lY (fun j => (F j || one_ (S.1 4 p == 0 && S.1 16 0 == 0 && p == S.1 12 0) 40 j) || one_ (S.1 4 p == 0 && S.1 16 0 == 0 && !(p == S.1 12 0)) 41 j)) m → j_Table_yakuOfDraw_L92 (nI p) K (bI b) (bI d) (lY F) m := by
        intro d hd F k
        unfold j_Table_yakuOfDraw_L92
        rw [hd]
        refine w_bitIf (y := 40) (by omega) ?_
        rw [lY_or, bI_0, R.g12, pz_eq (by omega) (by omega)]
        refine ⟨fun h => l115 false ?_ _ k, fun h => ⟨fun h2 => l115 false ?_ _ k, fun h2 => l115 true ?_ _ k⟩⟩
        · rw [← hb, h]; rfl
        · simp [h2]
        · rw [← hb, ts_nf h]; simp [h2]
      have l69 : ∀ d, d = (S.1 18 0 == 0 && lft S == 0) → j_Table_yakuOfDraw_L69 (nI p) K (bI b) (bI d) (lY (fun j => one_ (bb (cls S p)) 3 j || one_ (S.1 18 0 == 1) 4 j)) m := by
        intro d hd
        unfold j_Table_yakuOfDraw_L69
        rw [hd]
        refine w_bitIf (y := 6) (by omega) ?_
        rw [lY_or, bI_0, R.g12, pz_eq (by omega) (by omega)]
        refine ⟨fun h => l92 false ?_ _ k, fun h => ⟨fun h2 => l92 false ?_ _ k, fun h2 => l92 true ?_ _ k⟩⟩
        · rw [← hb, h]; rfl
        · simp [h2]
        · rw [← hb, ts_nf h]; simp [h2]
      refine ⟨fun h => l69 false (by simp [h]), fun h => w_countLeft R hl ?_⟩
      rw [pz_0 (by omega)]
      exact ⟨fun h2 => l69 false (by simp [h2]), fun h2 => l69 true (by simp [h, h2])⟩
    exact w_closed R B hp (fun z => cc true (bb_t z).symm) (fun z => cc false (bb_f z).symm)
  unfold j_Table_yakuOfDraw j_Table_yakuOfDraw_L23
  rw [nI_clamp (by omega), R.g4 hp, R.g16, pz_0 (by omega), pz_0 (by omega)]
  refine ⟨pz_in hp (by omega), fun h => l24 false (by simp [h]), fun h => ⟨fun h2 => l24 false (by simp [h2]), fun h2 => l24 true (by simp [h, h2])⟩⟩
theorem w_behind {k : Nat} {m : zm} {K : Int32 → zm → Prop} (hk : k < 34) (kk : K (nI (nxt k)) m) : j_Wall_kindBehind (nI k) m K := by
  unfold j_Wall_kindBehind j_Wall_kindBehind_L25 j_Wall_kindBehind_L46 j_Wall_kindBehind_L61
  rw [show ((27 : Int32) ≤ nI k) = (27 ≤ k) from pz_le (a := 27) (by omega) (by omega), show ((31 : Int32) ≤ nI k) = (31 ≤ k) from pz_le (a := 31) (by omega) (by omega), show (nI k = 33) = (k = 33) from pz_eq (b := 33) (by omega) (by omega), show (nI k = 30) = (k = 30) from pz_eq (b := 30) (by omega) (by omega), pz_rem9 (by omega), show (nI (k % 9) = 8) = (k % 9 = 8) from pz_eq (b := 8) (by omega) (by omega), nI_1]
  unfold nxt at kk
  refine ⟨fun h => ⟨fun h2 => ⟨fun h3 => ?_, fun h3 => ?_⟩, fun h2 => ⟨fun h3 => ?_, fun h3 => ?_⟩⟩, fun h => ⟨fun h3 => ?_, fun h3 => ?_⟩⟩
  · rw [if_neg (by omega), if_neg (by omega), if_neg h3] at kk; exact kk
  · rw [if_neg (by omega), if_neg (by omega), if_pos h3] at kk; exact kk
  · rw [if_neg (by omega), if_pos (by omega), if_neg h3] at kk; exact kk
  · rw [if_neg (by omega), if_pos (by omega), if_pos h3] at kk; exact kk
  · rw [if_pos (by omega), if_neg h3] at kk; exact kk
  · rw [if_pos (by omega), if_pos h3] at kk
    rw [show nI k - 8 = nI (k - 8) from sb_136 (b := 8) (by omega)]
    exact kk
theorem w_countDora {p : Nat} {al : Nat → Nat} {b : Bool} {m m0 : zm} {S : zS} {K : Int32 → zm → Prop} (R : Rc m S m0) (B : Bd S) (hb : (b = false) = (S.1 6 p = 0)) (ga : ∀ k, k < 34 → m.1 7 k = nI (al k)) (k : K (nI (dor S p al (S.1 17 0 + 1))) m) : j_Wall_countDora 7 (bI b) m K := by
  have b17 := B.b17 0
  have main : ∀ n i, i + n = S.1 17 0 + 1 → j_Wall_countDora_L5 7 (bI b) K (n + 1) (nI (dor S p al i)) (nI i) m := by
    intro n
    induction n with
    | zero =>
      intro i hi
      rw [j_Wall_countDora_L5, R.g17, pz_lt (by omega) (by omega)]
      refine ⟨fun _ => ?_, fun z => absurd (by omega) z⟩
      rw [show i = S.1 17 0 + 1 by omega]
      exact k
    | succ n ih =>
      intro i hi
      have b0 := B.b0 (131 - 2 * i)
      have b0' := B.b0 (130 - 2 * i)
      have n1 := nxt_lt (S.1 0 (131 - 2 * i)) (by omega)
      have n2 := nxt_lt (S.1 0 (130 - 2 * i)) (by omega)
      rw [j_Wall_countDora_L5, R.g17, pz_lt (by omega) (by omega), show ((4 : Int32) < nI i) = (4 < i) from pz_lt (a := 4) (by omega) (by omega), (ix_1 i (by omega)).1, (ix_1 i (by omega)).2, nI_clamp (by omega), R.g0 (by omega)]
      refine ⟨fun z => by omega, fun _ => ⟨fun z => by omega, fun _ => ⟨pz_in (by omega) (by omega), w_behind (by omega) ⟨pz_in (by omega) (by omega), fun y3 hy3 => ?_⟩⟩⟩⟩
      rw [nI_clamp (by omega), ga _ n1, nI_add] at hy3
      rw [bI_0, hb, nI_clamp (by omega), R.g0 (by omega)]
      refine ⟨fun h y7 hy7 => ?_, fun h => ⟨pz_in (by omega) (by omega), w_behind (by omega) ⟨pz_in (by omega) (by omega), fun y6 hy6 y7 hy7 => ?_⟩⟩⟩
      · rw [hy7, nI_1, hy3]
        have := ih (i + 1) (by omega)
        rw [dor, if_pos h, Nat.add_zero] at this
        exact this
      · rw [nI_clamp (by omega), ga _ n2, hy3, nI_add] at hy6
        rw [hy7, nI_1, hy6]
        have := ih (i + 1) (by omega)
        rw [dor, if_neg h] at this
        exact this
  exact ⟨_, main (S.1 17 0 + 1) 0 (by omega)⟩
/-- the judge's view of a hand -/
def Sj (m : zm) (S : zS) (p : Nat) (sd : Bool) : Prop := Lk m S p sd ∧ m.1 2 9 = nI (27 + (p + 4 - S.1 12 0) % 4) ∧ m.1 2 10 = nI (27 + S.1 13 0) ∧ m.2 2 11 = lY (hb_ S p sd) ∧ m.1 2 12 = nI (dor S p (ac S p sd) (S.1 17 0 + 1))
theorem w_showHand {p : Nat} {sd : Bool} {m m0 : zm} {S : zS} {K : zm → Prop} (R : Rc m S m0) (W : Wj S p sd) (k : ∀ m', Rc m' S m0 → Sj m' S p sd → K m') : j_Table_showHand (nI p) (bI sd) m K := by
  obtain ⟨B, M, r, hp, h21, hs, ha, hl, he, hsd⟩ := W
  have b12 := B.b12 0
  have b6 := B.b6 p
  have et : S.1 21 0 = til S + 1 := by unfold til; omega
  have g9 : m.1 0 9 = nI (til S) := by rw [R.g21, et, nI_pred]
  unfold j_Table_showHand
  rw [nI_clamp (by omega), g9]
  refine ⟨pz_in hp (by omega), fun y hy => ?_⟩
  subst hy
  refine w_lookAt R B hp (fun m3 R _ L => ?_)
  rw [R.g12, show nI p + 4 = nI (p + 4) from nI_add p 4, sb_136 (by omega), pz_rem4 (by omega), show (27 : Int32) + nI ((p + 4 - S.1 12 0) % 4) = nI (27 + (p + 4 - S.1 12 0) % 4) from nI_add 27 _]
  intro m4 h4
  have R4 := R.ks h4 (by omega)
  rw [R4.g13, show (27 : Int32) + nI (S.1 13 0) = nI (27 + S.1 13 0) from nI_add 27 _]
  intro m5 h5
  have R5 := R4.ks h5 (by omega)
  have fr5 : ∀ q j, ¬ (q = 2 ∧ (j = 9 ∨ j = 10)) → m5.1 q j = m3.1 q j := fun q j hq => by
    rw [h5, pz_rI, if_neg (by omega), h4, pz_rI, if_neg (by omega)]
  have e9 : m5.1 2 9 = nI (27 + (p + 4 - S.1 12 0) % 4) := by rw [h5, pz_rI, if_neg (by omega), h4, pz_rI, if_pos ⟨rfl, rfl⟩]
  have e10 : m5.1 2 10 = nI (27 + S.1 13 0) := by rw [h5, pz_rI, if_pos ⟨rfl, rfl⟩]
  refine w_yRiichi R5 B hp (r p hp).2.2 ?_
  have fin : ∀ G, lY (fun j => ((one_ (S.1 6 p == 1) 0 j || one_ (S.1 6 p == 2) 1 j) || one_ (S.1 7 p == 1) 2 j) || G j) = lY (hb_ S p sd) → j_Table_showHand_L78 (nI p) (bI sd) K (13 + 5 * p) (lY G) (lY (fun j => (one_ (S.1 6 p == 1) 0 j || one_ (S.1 6 p == 2) 1 j) || one_ (S.1 7 p == 1) 2 j)) m5 := by
    intro G hG
    unfold j_Table_showHand_L78
    rw [lY_or, hG]
    intro m12 h12
    have R12 := R5.kl h12 (by omega)
    have f12 : m12.1 = m5.1 := by rw [h12, pz_rL2]
    rw [R12.g6 hp, pz_0 (by omega)]
    have l109 : ∀ b, ((b = false) = (S.1 6 p = 0)) → j_Table_showHand_L109 (nI p) (bI sd) K (bI b) m12 := by
      intro b hb
      unfold j_Table_showHand_L109
      refine w_countDora R12 B hb (al := ac S p sd) (fun k hk => ?_) (fun m15 h15 => ?_)
      · rw [f12, fr5 7 k (by omega)]; exact (L.2.2.2.2.2.2 k hk).2
      · have R15 := R12.ks h15 (by omega)
        have f15 : ∀ q j, ¬ (q = 2 ∧ j = 12) → m15.1 q j = m5.1 q j := fun q j hq => by rw [h15, pz_rI, if_neg hq, f12]
        obtain ⟨l1, l2, l3, l4, l5, l6, l7⟩ := L
        refine k m15 R15 ⟨⟨?_, ?_, ?_, ?_, ?_, fun i hi => ?_, fun k hk => ⟨?_, ?_⟩⟩, ?_, ?_, ?_, ?_⟩
        · rw [f15 2 4 (by omega), fr5 2 4 (by omega)]; exact l1
        · rw [f15 2 5 (by omega), fr5 2 5 (by omega)]; exact l2
        · rw [f15 2 6 (by omega), fr5 2 6 (by omega)]; exact l3
        · rw [f15 2 8 (by omega), fr5 2 8 (by omega)]; exact l4
        · rw [f15 3 2 (by omega), fr5 3 2 (by omega)]; exact l5
        · rw [f15 5 i (by omega), fr5 5 i (by omega)]; exact l6 i hi
        · rw [f15 4 k (by omega), fr5 4 k (by omega)]; exact (l7 k hk).1
        · rw [f15 7 k (by omega), fr5 7 k (by omega)]; exact (l7 k hk).2
        · rw [f15 2 9 (by omega)]; exact e9
        · rw [f15 2 10 (by omega)]; exact e10
        · rw [h15, pz_rI2, h12, pz_rL, if_pos ⟨rfl, rfl⟩]
        · rw [h15, pz_rI, if_pos ⟨rfl, rfl⟩]
    exact ⟨fun h => l109 false (by simp [h]), fun h => l109 true (by simp [h])⟩
  rw [bI_0]
  refine ⟨fun h => w_yTile R5 B hl (fin _ ?_), fun h => w_yDraw R5 B hp hl (fin _ ?_)⟩
  · subst h
    refine lY_c ?_
    refine ix42 ?_ ?_ ?_ ?_ ?_ ?_ ?_ ?_ ?_ ?_ ?_ ?_ ?_ ?_ ?_ ?_ ?_ ?_ ?_ ?_ ?_ ?_ ?_ ?_ ?_ ?_ ?_ ?_ ?_ ?_ ?_ ?_ ?_ ?_ ?_ ?_ ?_ ?_ ?_ ?_ ?_ ?_ <;> simp [one_, hb_]
  · have h := ts_nf h
    subst h
    refine lY_c ?_
    refine ix42 ?_ ?_ ?_ ?_ ?_ ?_ ?_ ?_ ?_ ?_ ?_ ?_ ?_ ?_ ?_ ?_ ?_ ?_ ?_ ?_ ?_ ?_ ?_ ?_ ?_ ?_ ?_ ?_ ?_ ?_ ?_ ?_ ?_ ?_ ?_ ?_ ?_ ?_ ?_ ?_ ?_ ?_ <;> simp [one_, hb_]
