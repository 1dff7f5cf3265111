/-! THE TABLE'S JUDGE -/
theorem Sj.j {m m' : zm} {S : zS} {p : Nat} {sd : Bool} (J : Sj m S p sd) (h : eqJ m m') : Sj m' S p sd := by
  obtain ⟨⟨l1, l2, l3, l4, l5, l6, l7⟩, j1, j2, j3, j4⟩ := J
  refine ⟨⟨?_, ?_, ?_, ?_, ?_, fun i hi => ?_, fun k hk => ⟨?_, ?_⟩⟩, ?_, ?_, ?_, ?_⟩
  · rw [(h 2 4 (by omega)).1, l1]
  · rw [(h 2 5 (by omega)).1, l2]
  · rw [(h 2 6 (by omega)).1, l3]
  · rw [(h 2 8 (by omega)).1, l4]
  · rw [(h 3 2 (by omega)).1, l5]
  · rw [(h 5 i (by omega)).1]; exact l6 i hi
  · rw [(h 4 k (by omega)).1]; exact (l7 k hk).1
  · rw [(h 7 k (by omega)).1]; exact (l7 k hk).2
  · rw [(h 2 9 (by omega)).1, j1]
  · rw [(h 2 10 (by omega)).1, j2]
  · rw [(h 2 11 (by omega)).2, j3]
  · rw [(h 2 12 (by omega)).1, j4]
theorem ac_ec0 {S : zS} {p : Nat} {sd : Bool} (h : S.1 2 p = 0) : ac S p sd = ec S p sd := by
  funext k
  rw [ec_ac, h]
  rfl
theorem cls_0 {S : zS} {p : Nat} (h : S.1 2 p = 0) : bb (cls S p) = true := bb_t (fun i hi => by omega)
theorem w_findBest {S : zS} {p : Nat} {sd : Bool} {K : Int32 → zm → Prop} {m m0 : zm} (W : Wj S p sd) (R : Rc m S m0) (J : Sj m S p sd) (k : ∀ m' u', Rc m' S m0 → Hb m' u' → Gr (Rdv S p sd) u' → K (yb u') m') : j_Judge_findBest m K := by
  have b2 := W.1.b2 p
  have hd : dor S p (ac S p sd) (S.1 17 0 + 1) < 500 := by
    have := dor_le (S := S) (p := p) W.a4 (S.1 17 0 + 1)
    have := W.1.b17 0
    omega
  have w0 : (nI (S.1 2 p) = 0) = (S.1 2 p = 0) := pz_eq (b := 0) (by omega) (by omega)
  have c30 : (1073741824 : Int64) = lY (fun j => j == 30) := by decide +kernel
  have c26 : (67108864 : Int64) = lY (fun j => j == 26) := by decide +kernel
  have kJ : ∀ {x y : zm}, Rc x S m0 → eqJ x y → Rc y S m0 := fun R' h => R'.keep (fun a b hn => h a b (by omega))
  have pa : ∀ {x : zm}, Sj x S p sd → S.1 2 p = 0 → pA x 7 (ec S p sd) := fun J' h k hk => by
    have := (J'.1.2.2.2.2.2.2 k hk).2
    rw [ac_ec0 h] at this
    exact ⟨this, by have := W.e4 k; omega⟩
  have l39 : ∀ (x : zm) (u : zV), Rc x S m0 → Sj x S p sd → Hb x u → Gr (O1 S p sd) u → j_Judge_findBest_L39 K x := by
    intro x u R1 J1 H1 G1
    unfold j_Judge_findBest_L39
    rw [J1.1.1, w0]
    refine ⟨fun z => w_L75 W R1 J1 H1 (G1.c (fun v => ⟨fun h => Or.inl h, fun h => h.elim id (fun y => absurd y.2.1 z)⟩)) k, fun z => w_Shape_isSevenPairs (pa J1 z) ?_⟩
    by_cases q : n2_ (ec S p sd) 34 = 7
    · rw [if_pos q]
      refine ⟨fun y => absurd y (by decide), fun _ => w_yTiles (fun k hk => (J1.1.2.2.2.2.2.2 k hk).2) W.a4 J1.1.1 b2 ?_⟩
      rw [J1.2.2.2.1, c26, lY_or, lY_or]
      refine w_rate (fu := 25) hd (by omega) (by omega) J1.2.2.2.2 J1.1.2.1 (fun y => by rw [cls_0 z] at y; cases y) H1 (fun m' e1 h1 => w_L75 W (kJ R1 e1) (J1.j e1) h1 ((Gr.up G1).c (fun v => ?_)) k)
      have ef : (fun j => (hb_ S p sd j || j == 26) || tb_ (ac S p sd) (S.1 2 p) j) = (fun y => hb_ S p sd y || tb_ (ac S p sd) (S.1 2 p) y || y == 26) := by
        funext j
        cases hb_ S p sd j <;> cases tb_ (ac S p sd) (S.1 2 p) j <;> cases (j == 26) <;> rfl
      rw [ef]
      unfold O2
      constructor
      · rintro (a | ⟨a, b⟩)
        · exact Or.inl a
        · exact Or.inr ⟨by rw [a]; exact b, z, q, a⟩
      · rintro (a | ⟨a, _, _, b⟩)
        · exact Or.inl a
        · exact Or.inr ⟨b, by rw [b] at a; exact a⟩
    · rw [if_neg q]
      refine ⟨fun _ => w_L75 W R1 J1 H1 (G1.c (fun v => ⟨fun h => Or.inl h, fun h => h.elim id (fun y => absurd y.2.2.1 q)⟩)) k, fun y => absurd rfl y⟩
  intro m1 h1
  have e1 : eqJ m m1 := fun a b hn => by
    rw [h1, pz_rL, pz_rL2, if_neg (by omega)]
    exact ⟨rfl, rfl⟩
  have R1 := kJ R e1
  have J1 := J.j e1
  have H1 : Hb m1 (0, 0, 0, 0) := ⟨⟨by decide, by decide, by decide, by decide⟩, Or.inl ⟨rfl, by rw [h1, pz_rL, if_pos ⟨rfl, rfl⟩]⟩⟩
  rw [J1.1.1, w0]
  have none_ : ¬ (S.1 2 p = 0 ∧ ∀ k, k < 34 → (decide (0 < ec S p sd k)) = out_ k) → Gr (O1 S p sd) (0, 0, 0, 0) := fun hn => Gr.e.c (fun v => ⟨fun h => absurd h id, fun h => hn ⟨h.2.1, h.2.2.1⟩⟩)
  refine ⟨fun z => l39 m1 _ R1 J1 H1 (none_ (fun y => z y.1)), fun z => w_Shape_isOrphans (pa J1 z) (fun ho => ?_) (fun ho => ?_)⟩
  · refine ⟨fun y => absurd y (by decide), fun _ => ?_⟩
    rw [J1.2.2.2.1, c30, lY_or]
    refine w_rate (fu := 30) hd (by omega) (by omega) J1.2.2.2.2 J1.1.2.1 (fun y => by rw [cls_0 z] at y; cases y) H1 (fun m' e2 h2 => l39 m' _ (kJ R1 e2) (J1.j e2) h2 ((Gr.up Gr.e).c (fun v => ?_)))
    constructor
    · rintro (a | ⟨a, b⟩)
      · exact absurd a id
      · exact ⟨by rw [a]; exact b, z, ho, a⟩
    · rintro ⟨a, _, _, b⟩
      exact Or.inr ⟨b, by rw [b] at a; exact a⟩
  · exact ⟨fun _ => l39 m1 _ R1 J1 H1 (none_ (fun y => ho y.2)), fun y => absurd rfl y⟩
theorem jgC : JgC := by
  intro S p sd m m0 K R W k
  refine w_showHand R W (fun m1 R1 J1 => w_findBest W R1 J1 (fun m' u R' H' G' => ?_))
  have e := jd_eq G'
  rw [← e]
  refine k m' R' ?_
  rw [e]
  intro hn
  rcases H'.2 with h | h
  · exact absurd (by rw [h.1]) hn
  · exact h.2
/-- a bound on what a hand is worth -/
theorem vy_hy {f : Nat → Bool} {c : Bool} {dr fu : Nat} (hd : dr < 500) : (vy f c dr fu).2.1 < 1000 ∧ (vy f c dr fu).2.2.2 < 2 ^ 42 := by
  have h := hs_le f c 30
  unfold vy
  split
  · exact ⟨by show 13 < 1000; omega, mk_lt _ 42⟩
  · exact ⟨by show dr + hs_ f c 30 < 1000; omega, mk_lt _ 42⟩
theorem tA_l4 {e : Nat → Nat} {w q : Nat} {O' : List Nat} : ∀ n k a b pr O, k + n = 34 → Ic e w n k a b pr O → (q, O') ∈ tA e n k a b pr O → w + O'.length = 4 := by
  intro n
  induction n with
  | zero =>
    intro k a b pr O hk I h
    obtain ⟨i1, i2, i3, i4, i5⟩ := I
    cases pr with
    | none => cases h
    | some x =>
      have h' := List.mem_singleton.mp (show (q, O') ∈ [(x, O)] from h)
      have e2 : O' = O := congrArg Prod.snd h'
      have i3 : 3 * O.length + 2 * 1 + 0 = 3 * (4 - w) + 2 := i3
      rw [e2]
      omega
  | succ n ih =>
    intro k a b pr O hk I h
    obtain ⟨i1, i2, i3, i4, i5⟩ := I
    obtain ⟨T, P, hT, hP, h⟩ := mem_tA.mp h
    unfold br at h
    split at h
    · rename_i hc
      obtain ⟨c1, c2, c3⟩ := bb_iff.mp hc
      refine ih _ _ _ _ _ (by omega) ⟨fun z => ?_, fun z => ?_, ?_, i4, fun x z => ?_⟩ h
      · have := i2 (by omega)
        unfold runOk at c3
        omega
      · show _ ≤ e (k + 2)
        unfold runOk at c3
        omega
      · have hr := rm_r c3 hk
        rw [rm] at i3
        simp only [List.length_append, List.length_replicate]
        have hpn : pn (if P = 1 then some k else pr) = pn pr + P := by
          by_cases z : P = 1
          · rw [if_pos z, c2 z, z]; rfl
          · rw [if_neg z]; omega
        rw [hpn]
        omega
      · by_cases y : P = 1
        · rw [if_pos y] at z
          injection z with z
          omega
        · rw [if_neg y] at z
          exact i5 x z
    · cases h
theorem Wj.l4 {S : zS} {p : Nat} {sd : Bool} (W : Wj S p sd) : ∀ x, x ∈ tA (ec S p sd) 34 0 0 0 none [] → S.1 2 p + x.2.length = 4 := fun x hx => by
  refine tA_l4 34 0 0 0 none [] rfl ⟨fun _ => Nat.zero_le _, fun _ => Nat.zero_le _, ?_, W.1.b2 p, fun q z => by cases z⟩ hx
  have := rm_c (ec S p sd) 34 0
  have e0 : csum (ec S p sd) 0 = 0 := rfl
  have e34 : csum (ec S p sd) (0 + 34) = csum (ec S p sd) 34 := rfl
  have es := W.es
  show 3 * 0 + 2 * 0 + rm (ec S p sd) 34 0 0 0 = _
  omega
theorem Gr_l : ∀ L : List zV, ∃ u, Gr (fun v => v ∈ L ∧ ¬ v.2.2.2 = 0) u
  | [] => ⟨_, Gr.e.c (fun v => ⟨fun z => absurd z id, fun z => by cases z.1⟩)⟩
  | x :: L => by
    obtain ⟨u, h⟩ := Gr_l L
    refine ⟨_, (Gr.up (v := x) h).c (fun v => ?_)⟩
    constructor
    · rintro (⟨a, b⟩ | ⟨a, b⟩)
      · exact ⟨List.mem_cons_of_mem _ a, b⟩
      · exact ⟨by rw [a]; exact List.mem_cons_self, by rw [a]; exact b⟩
    · rintro ⟨a, b⟩
      rcases List.mem_cons.mp a with a | a
      · exact Or.inr ⟨a, by rw [← a]; exact b⟩
      · exact Or.inl ⟨a, b⟩
/-- there is a best reading -/
theorem jd_gr {S : zS} {p : Nat} {sd : Bool} (W : Wj S p sd) : Gr (Rdv S p sd) (jd S p sd) := by
  have fl : ∀ (Q : Prop) (v : zV), ∃ L : List zV, ∀ u, u ∈ L ↔ (Q ∧ u = v) := fun Q v => by
    by_cases q : Q
    · exact ⟨[v], fun u => ⟨fun h => ⟨q, List.mem_singleton.mp h⟩, fun h => List.mem_singleton.mpr h.2⟩⟩
    · exact ⟨[], fun u => ⟨fun h => (by cases h), fun h => absurd h.1 q⟩⟩
  have fj : ∀ (f : Nat → List zV) n, ∃ L : List zV, ∀ u, u ∈ L ↔ ∃ i, i < n ∧ u ∈ f i := fun f n => by
    induction n with
    | zero => exact ⟨[], fun u => ⟨fun h => (by cases h), fun ⟨i, h, _⟩ => by omega⟩⟩
    | succ n ih =>
      obtain ⟨L, hL⟩ := ih
      refine ⟨L ++ f n, fun u => ?_⟩
      rw [List.mem_append, hL]
      constructor
      · rintro (⟨i, h1, h2⟩ | h)
        · exact ⟨i, by omega, h2⟩
        · exact ⟨n, by omega, h⟩
      · rintro ⟨i, h1, h2⟩
        by_cases q : i = n
        · rw [q] at h2; exact Or.inr h2
        · exact Or.inl ⟨i, by omega, h2⟩
  have fw : ∀ (V : Nat × List Nat → Nat → zV) (lt : Nat × List Nat → Nat → Prop) (Wl : List (Nat × List Nat)), ∃ L : List zV, ∀ u, u ∈ L ↔ ∃ x la, x ∈ Wl ∧ la < 5 ∧ lt x la ∧ u = V x la := fun V lt Wl => by
    induction Wl with
    | nil => exact ⟨[], fun u => ⟨fun h => (by cases h), fun ⟨x, _, h, _⟩ => by cases h⟩⟩
    | cons y Wl ih =>
      obtain ⟨L, hL⟩ := ih
      obtain ⟨L2, hL2⟩ := fj (fun la => (fl (lt y la) (V y la)).choose) 5
      refine ⟨L2 ++ L, fun u => ?_⟩
      rw [List.mem_append, hL, hL2]
      constructor
      · rintro (⟨la, h1, h2⟩ | ⟨x, la, h1, h2⟩)
        · have := ((fl (lt y la) (V y la)).choose_spec u).mp h2
          exact ⟨y, la, List.mem_cons_self, h1, this⟩
        · exact ⟨x, la, List.mem_cons_of_mem _ h1, h2⟩
      · rintro ⟨x, la, h1, h2, h3⟩
        rcases List.mem_cons.mp h1 with e | e
        · rw [e] at h3
          exact Or.inl ⟨la, h2, ((fl (lt y la) (V y la)).choose_spec u).mpr h3⟩
        · exact Or.inr ⟨x, la, e, h2, h3⟩
  obtain ⟨L1, h1⟩ := fl (S.1 2 p = 0 ∧ ∀ k, k < 34 → (decide (0 < ec S p sd k)) = out_ k) (vy (fun y => hb_ S p sd y || y == 30) (en_ S p sd).1 (dor S p (ac S p sd) (S.1 17 0 + 1)) 30)
  obtain ⟨L2, h2⟩ := fl (S.1 2 p = 0 ∧ n2_ (ec S p sd) 34 = 7) (vy (fun y => hb_ S p sd y || tb_ (ac S p sd) (S.1 2 p) y || y == 26) (en_ S p sd).1 (dor S p (ac S p sd) (S.1 17 0 + 1)) 25)
  obtain ⟨L3, h3⟩ := fw (vq (en_ S p sd) (hb_ S p sd) (tb_ (ac S p sd) (S.1 2 p)) (dor S p (ac S p sd) (S.1 17 0 + 1)) (mf S p) (S.1 2 p)) (fun x la => S.1 2 p ≤ la ∧ lth (til S) (mf S p) (S.1 2 p) x la) (tA (ec S p sd) 34 0 0 0 none [])
  obtain ⟨u, hu⟩ := Gr_l (L1 ++ (L2 ++ L3))
  have G : Gr (Rdv S p sd) u := hu.c (fun v => by
    rw [List.mem_append, List.mem_append, h1, h2, h3]
    have key := ways_rd (e := ec S p sd) W.e4 (E := en_ S p sd) (hp := hb_ S p sd) (tl := tb_ (ac S p sd) (S.1 2 p)) (dr := dor S p (ac S p sd) (S.1 17 0 + 1)) (w := S.1 2 p) (d := mf S p) W.l4 v
    have kE : (en_ S p sd).2.2.2.2 = til S := rfl
    rw [kE] at key
    unfold Rdv Rd_
    rw [kE, ← key]
    constructor
    · rintro ⟨⟨a, b⟩ | ⟨a, b⟩ | ⟨x, la, a, b, c, d⟩, z⟩
      · exact ⟨z, Or.inl ⟨a.1, a.2, b⟩⟩
      · exact ⟨z, Or.inr (Or.inl ⟨a.1, a.2, b⟩)⟩
      · exact ⟨z, Or.inr (Or.inr ⟨x, la, a, c.1, by omega, c.2, d⟩)⟩
    · rintro ⟨z, ⟨a, b, c⟩ | ⟨a, b, c⟩ | ⟨x, la, a, b, c, d, e⟩⟩
      · exact ⟨Or.inl ⟨⟨a, b⟩, c⟩, z⟩
      · exact ⟨Or.inr (Or.inl ⟨⟨a, b⟩, c⟩), z⟩
      · exact ⟨Or.inr (Or.inr ⟨x, la, a, by omega, ⟨b, d⟩, e⟩), z⟩)
  rw [jd_eq G]
  exact G
theorem jgB : JgB := by
  intro S p sd W
  have hd : dor S p (ac S p sd) (S.1 17 0 + 1) < 500 := by
    have := dor_le (S := S) (p := p) W.a4 (S.1 17 0 + 1)
    have := W.1.b17 0
    omega
  have hx : ∀ v, Rdv S p sd v → v.2.1 < 1000 ∧ v.2.2.2 < 2 ^ 42 := by
    rintro v ⟨_, ⟨_, _, h⟩ | ⟨_, _, h⟩ | ⟨_, _, _, _, _, h⟩⟩
    · rw [h]; exact vy_hy hd
    · rw [h]; exact vy_hy hd
    · rw [h]; exact vy_hy hd
  rcases jd_gr W with ⟨h, _⟩ | ⟨_, h⟩
  · exact hx _ h
  · rw [h]; exact ⟨by decide, by decide⟩
