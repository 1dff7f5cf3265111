/-! THE REFERENCE: scratch cells, load, pairs, orphans, held -/
def scr (q j : Nat) : Prop := (50 ≤ q ∧ q ≤ 55) ∨ (q = 33 ∧ 32 ≤ j)
def eqF (m m' : zm) : Prop := ∀ q j, ¬ scr q j → m'.1 q j = m.1 q j ∧ m'.2 q j = m.2 q j
theorem eqF.rf {m : zm} : eqF m m := fun _ _ _ => ⟨rfl, rfl⟩
theorem eqF.trans {m m1 m2 : zm} (h1 : eqF m m1) (h2 : eqF m1 m2) : eqF m m2 := fun q j h => ⟨(h2 q j h).1.trans (h1 q j h).1, (h2 q j h).2.trans (h1 q j h).2⟩
theorem eqF.w {m m1 : zm} (h : eqF m m1) {q j : Nat} (hs : scr q j) (x : Int32) : eqF m (zm_wI m1 q j x) := fun a b hn => by
  rw [pz_rI, pz_rI2]
  rw [if_neg (fun e => hn (by rw [e.1, e.2]; exact hs))]
  exact h a b hn
theorem eqF.wL {m m1 : zm} (h : eqF m m1) {q j : Nat} (hs : scr q j) (x : Int64) : eqF m (zm_wL m1 q j x) := fun a b hn => by
  rw [pz_rL, pz_rL2]
  rw [if_neg (fun e => hn (by rw [e.1, e.2]; exact hs))]
  exact h a b hn
theorem ns_lo {q j : Nat} (h : q < 50) (h2 : ¬ q = 33) : ¬ scr q j := by rintro (e | e) <;> omega
/-- player p of the reference -/
def rP (m : zm) (p : Nat) (c d : Nat → Nat) (w : Nat) : Prop := (∀ k, k < 34 → m.1 36 (34 * p + k) = nI (c k) ∧ c k < 1000) ∧ m.1 37 p = nI w ∧ w ≤ 4 ∧ ∀ i, i < w → m.1 38 (4 * p + i) = nI (d i / 4) ∧ m.1 39 (4 * p + i) = nI (d i % 4) ∧ d i < 1000
theorem rP.keep {m m' : zm} {p w : Nat} {c d : Nat → Nat} (h : rP m p c d w) (e : eqF m m') : rP m' p c d w :=
  ⟨fun k hk => by rw [(e 36 _ (ns_lo (by omega) (by omega))).1]; exact h.1 k hk, by rw [(e 37 _ (ns_lo (by omega) (by omega))).1]; exact h.2.1, h.2.2.1, fun i hi => by rw [(e 38 _ (ns_lo (by omega) (by omega))).1, (e 39 _ (ns_lo (by omega) (by omega))).1]; exact h.2.2.2 i hi⟩
theorem pz_34 (p k : Nat) : (34 : Int32) * nI p + nI k = nI (34 * p + k) := by
  rw [show (34 : Int32) = nI 34 from rfl, pk_mul, nI_add]
theorem pz_4 (p k : Nat) : (4 : Int32) * nI p + nI k = nI (4 * p + k) := by
  rw [show (4 : Int32) = nI 4 from rfl, pk_mul, nI_add]
theorem pz_4m (p : Nat) : (4 : Int32) * nI p = nI (4 * p) := by
  rw [show (4 : Int32) = nI 4 from rfl, pk_mul]
theorem w_Model_load {p w : Nat} {a2 : Int32} {c d a : Nat → Nat} {m : zm} {K : Int32 → zm → Prop} (hp : p < 4) (hr : rP m p c d w) (ha : ∀ k, k < 34 → a k ≤ 1 ∧ (nI k = a2 ↔ a k = 1)) (hK : ∀ m', eqF m m' → m'.1 33 = m.1 33 → pA m' 50 (fun k => c k + a k) → K (nI (csum (fun k => c k + a k) 34)) m') : j_Model_load (nI p) a2 m K := by
  have hb : ∀ k, k < 34 → c k + a k < 1001 := fun k hk => by have := (hr.1 k hk).2; have := (ha k hk).1; omega
  have hsum : ∀ n, n ≤ 34 → csum (fun k => c k + a k) n ≤ 1001 * n := by
    intro n
    induction n with
    | zero => intro _; exact Nat.le_refl _
    | succ n ih => intro hn; have := ih (by omega); have := hb n (by omega); simp only [csum]; omega
  have key : ∀ (n k : Nat), k + n = 34 → ∀ m', eqF m m' → m'.1 33 = m.1 33 → (∀ j, j < k → m'.1 50 j = nI (c j + a j)) → j_Model_load_L5 (nI p) a2 K (n + 1) (nI (csum (fun k => c k + a k) k)) (nI k) m' := by
    intro n
    induction n with
    | zero =>
      intro k hk m' he h33 hw
      have hk : k = 34 := by omega
      subst hk
      rw [j_Model_load_L5]
      refine ⟨fun _ => hK m' he h33 (fun j hj => ⟨hw j hj, ?_⟩), fun h => absurd (by decide) h⟩
      have := hb j hj
      show c j + a j < 2000
      omega
    | succ n ih =>
      intro k hk m' he h33 hw
      have hk34 : k < 34 := by omega
      obtain ⟨hck, hcb⟩ := (hr.keep he).1 k hk34
      obtain ⟨ha1, ha2⟩ := ha k hk34
      have hs := hsum k (by omega)
      have step : ∀ t : Nat, a k = t → j_Model_load_L41 (nI p) a2 (j_Model_load_L5 (nI p) a2 K (n + 1)) K (nI (csum (fun k => c k + a k) k)) (nI k) (nI t) (m'.1 36 (Int32.toNatClampNeg ((34 * nI p) + nI k))) (nI k) m' := by
        intro t ht
        refine ⟨pz_in hk34 (by omega), fun m1 h1 => ⟨pz_in hk34 (by omega), fun y2 h2 y3 h3 => ?_⟩⟩
        rw [pz_34, nI_clamp (by omega), nI_clamp (by omega), hck, nI_add] at h1
        have e2 : y2 = nI (csum (fun k => c k + a k) (k + 1)) := by
          rw [h2, nI_clamp (by omega), h1, pz_rI, if_pos ⟨rfl, rfl⟩, nI_add, csum, ht]
        rw [e2, h3, nI_1]
        refine ih (k + 1) (by omega) m1 ?_ ?_ ?_
        · rw [h1]; exact he.w (Or.inl ⟨by omega, by omega⟩) _
        · rw [h1]
          funext j
          rw [pz_rI, if_neg (by omega)]
          exact congrFun h33 j
        · intro j hj
          rw [h1, pz_rI]
          by_cases ej : j = k
          · subst ej
            rw [if_pos ⟨rfl, rfl⟩, ht]
          · rw [if_neg (fun z => ej z.2)]
            exact hw j (by omega)
      rw [j_Model_load_L5]
      refine ⟨fun h => ?_, fun _ => ⟨by rw [pz_34]; exact pz_in (by omega) (by omega), fun h => ?_, fun h => ?_⟩⟩
      · have h : 34 ≤ k := (nI_leI (a := 34) (by omega) (by omega)).mp h
        omega
      · exact step 0 (by have : ¬ a k = 1 := fun e => h (ha2.mpr e); omega)
      · exact step 1 (ha2.mp h)
  exact ⟨35, key 34 0 rfl m eqF.rf rfl (fun j hj => by omega)⟩
theorem w_Model_isPairs {m : zm} {c : Nat → Nat} {K : Int32 → zm → Prop} (hc : pA m 50 c) (hT : n2_ c 34 = 7 → K 1 m) (hF : ¬ n2_ c 34 = 7 → K 0 m) : j_Model_isPairs m K := by
  have key : ∀ (n k : Nat), k + n = 34 → j_Model_isPairs_L4 K (n + 1) (nI (n2_ c k)) (nI k) m := by
    intro n
    induction n with
    | zero =>
      intro k hk
      have hk : k = 34 := by omega
      subst hk
      have hle := n2_le c 34
      rw [j_Model_isPairs_L4]
      refine ⟨fun _ => ⟨fun h => ?_, fun h => ?_⟩, fun h => absurd (by decide) h⟩
      · exact ⟨Or.inl rfl, hF (fun e => h (by rw [e]; rfl))⟩
      · exact ⟨Or.inr rfl, hT ((nI_eq (b := 7) (by omega) (by omega)).mp h)⟩
    | succ n ih =>
      intro k hk
      have hk34 : k < 34 := by omega
      obtain ⟨hck, hcb⟩ := hc k hk34
      have hle := n2_le c k
      have ih1 := ih (k + 1) (by omega)
      rw [j_Model_isPairs_L4]
      refine ⟨fun h => ?_, fun _ => ⟨pz_in hk34 (by omega), fun h => ?_, fun h => ?_⟩⟩
      · have h : 34 ≤ k := (nI_leI (a := 34) (by omega) (by omega)).mp h
        omega
      · rw [nI_clamp (by omega), hck] at h
        have h : ¬ c k = 2 := fun e => h (by rw [e]; rfl)
        rw [n2_, if_neg h] at ih1
        intro y hy
        rw [hy, nI_1]
        exact ih1
      · rw [nI_clamp (by omega), hck] at h
        have h : c k = 2 := (nI_eq (b := 2) (by omega) (by omega)).mp h
        rw [n2_, if_pos h] at ih1
        intro y hy
        rw [hy, nI_1, nI_1]
        exact ih1
  exact ⟨35, key 34 0 rfl⟩
theorem w_Model_outer {k : Nat} {m : zm} {K : Int32 → zm → Prop} (hk : k < 1000) (hT : out_ k = true → K 1 m) (hF : out_ k = false → K 0 m) : j_Model_outer (nI k) m K := by
  have e27 : ((27 : Int32) ≤ nI k) = (27 ≤ k) := pz_le (a := 27) (by omega) (by omega)
  have e0 : (nI k - nI k / 9 * 9 = 0) = (k % 9 = 0) := by rw [pz_rem9 (by omega), pz_0 (by omega)]
  have e8 : (nI k - nI k / 9 * 9 = 8) = (k % 9 = 8) := by rw [pz_rem9 (by omega)]; exact pz_eq (b := 8) (by omega) (by omega)
  rw [j_Model_outer, e27, e0, e8]
  refine ⟨fun h => ⟨Or.inr rfl, hT (by simp [out_, h])⟩, fun h => ⟨fun h2 => ⟨Or.inr rfl, hT (by simp [out_, h2])⟩, fun h2 => ⟨fun h3 => ⟨Or.inl rfl, hF (by simp [out_, h2, h3]; omega)⟩, fun h3 => ⟨Or.inr rfl, hT (by simp [out_, h3])⟩⟩⟩⟩
theorem w_Model_isOrphans {m : zm} {c : Nat → Nat} {K : Int32 → zm → Prop} (hc : pA m 50 c) (hT : (∀ k, k < 34 → (decide (0 < c k)) = out_ k) → K 1 m) (hF : (¬ ∀ k, k < 34 → (decide (0 < c k)) = out_ k) → K 0 m) : j_Model_isOrphans m K := by
  have key : ∀ (n k : Nat), k + n = 34 → ((∀ j, j < k → (decide (0 < c j)) = out_ j) → j_Model_isOrphans_L4 K (n + 1) 1 (nI k) m) ∧ ((¬ ∀ j, j < k → (decide (0 < c j)) = out_ j) → j_Model_isOrphans_L4 K (n + 1) 0 (nI k) m) := by
    intro n
    induction n with
    | zero =>
      intro k hk
      have hk : k = 34 := by omega
      subst hk
      rw [j_Model_isOrphans_L4, j_Model_isOrphans_L4]
      exact ⟨fun h => ⟨fun _ => ⟨Or.inr rfl, hT h⟩, fun e => absurd (by decide) e⟩, fun h => ⟨fun _ => ⟨Or.inl rfl, hF h⟩, fun e => absurd (by decide) e⟩⟩
    | succ n ih =>
      intro k hk
      have hk34 : k < 34 := by omega
      obtain ⟨hck, hcb⟩ := hc k hk34
      obtain ⟨ih1, ih0⟩ := ih (k + 1) (by omega)
      have n34 : ¬ (34 : Int32) ≤ nI k := fun h => by
        have h : 34 ≤ k := (nI_leI (a := 34) (by omega) (by omega)).mp h
        omega
      rw [j_Model_isOrphans_L4, j_Model_isOrphans_L4]
      have bad : (¬ ∀ j, j < k + 1 → (decide (0 < c j)) = out_ j) → j_Model_isOrphans_L39 (j_Model_isOrphans_L4 K (n + 1)) K (nI k) m := fun h y hy => by
        rw [hy, nI_1]; exact ih0 h
      refine ⟨fun hall => ⟨fun h => absurd h n34, fun _ => ⟨fun e => absurd e (by decide), fun _ => ⟨pz_in hk34 (by omega), ?_⟩⟩⟩, fun hno => ⟨fun h => absurd h n34, fun _ => ⟨fun _ => bad (fun e => hno (fun j hj => e j (by omega))), fun e => absurd rfl e⟩⟩⟩
      have all1 : decide (0 < c k) = out_ k → ∀ j, j < k + 1 → (decide (0 < c j)) = out_ j := fun h j hj => by
        rcases Nat.lt_or_eq_of_le (Nat.lt_succ_iff.mp hj) with e | e
        · exact hall j e
        · rw [e]; exact h
      have good : decide (0 < c k) = out_ k → j_Model_isOrphans_L40 (j_Model_isOrphans_L4 K (n + 1)) K (nI k) 1 m := fun h y hy => by
        rw [hy, nI_1]; exact ih1 (all1 h)
      have bad1 : ¬ decide (0 < c k) = out_ k → j_Model_isOrphans_L39 (j_Model_isOrphans_L4 K (n + 1)) K (nI k) m := fun h => bad (fun e => h (e k (by omega)))
      rw [nI_clamp (by omega), hck]
      refine ⟨fun h => ?_, fun h => ?_⟩
      · have h : c k ≤ 0 := (nI_leI (b := 0) (by omega) (by omega)).mp h
        have hd : decide (0 < c k) = false := by simp; omega
        refine w_Model_outer (by omega) (fun ho => ⟨fun _ => bad1 (by rw [hd, ho]; decide), fun e => absurd e (by decide)⟩) (fun ho => ⟨fun e => absurd rfl e, fun _ => good (by rw [hd, ho])⟩)
      · have h : ¬ c k ≤ 0 := fun e => h ((nI_leI (b := 0) (by omega) (by omega)).mpr e)
        have hd : decide (0 < c k) = true := by simp; omega
        refine w_Model_outer (by omega) (fun ho => ⟨fun e => absurd rfl e, fun _ => good (by rw [hd, ho])⟩) (fun ho => ⟨fun _ => bad1 (by rw [hd, ho]; decide), fun e => absurd e (by decide)⟩)
  exact ⟨35, (key 34 0 rfl).1 (fun j hj => by omega)⟩
theorem w_Model_held {p k w : Nat} {c d : Nat → Nat} {m : zm} {K : Int32 → zm → Prop} (hp : p < 4) (hk : k < 34) (hr : rP m p c d w) (hK : K (nI (own_ c d w k)) m) : j_Model_held (nI p) (nI k) m K := by
  obtain ⟨hc, hw, hw4, hd⟩ := hr
  obtain ⟨hck, hcb⟩ := hc k hk
  have key : ∀ (n i : Nat), i + n = w → j_Model_held_L17 (nI p) (nI k) K (n + 1) (nI (c k + msum d k i)) (nI (4 * p + i)) m := by
    intro n
    induction n with
    | zero =>
      intro i hi
      have hi : i = w := by omega
      subst hi
      rw [j_Model_held_L17, nI_clamp (by omega), hw, pz_4]
      exact ⟨pz_in hp (by omega), fun _ => hK, fun h => absurd (Int32.le_refl _) h⟩
    | succ n ih =>
      intro i hi
      obtain ⟨h1, h2, h3⟩ := hd i (by omega)
      have hm := msum_le d k i
      have ih1 := ih (i + 1) (by omega)
      rw [j_Model_held_L17, nI_clamp (n := p) (by omega), hw, pz_4]
      refine ⟨pz_in hp (by omega), fun h => ?_, fun _ => ⟨pz_in (by omega) (by omega), fun y3 hy3 => ⟨pz_in (by omega) (by omega), ?_⟩⟩⟩
      · rw [pz_le (by omega) (by omega)] at h
        omega
      · rw [nI_clamp (by omega), h1] at hy3
        rw [nI_clamp (by omega), h2]
        subst hy3
        have fin : ∀ t : Nat, cin_ (d i) k = t → j_Model_held_L126 (nI p) (nI k) (j_Model_held_L17 (nI p) (nI k) K (n + 1)) K (nI (4 * p + i)) (nI t) (nI (c k + msum d k i)) m := by
          intro t ht y4 h4 y5 h5
          rw [h4, h5, nI_add, nI_1]
          rw [msum, ht, ← Nat.add_assoc] at ih1
          exact ih1
        have in0 : cin_ (d i) k = 0 → j_Model_held_L84 (nI p) (nI k) (j_Model_held_L17 (nI p) (nI k) K (n + 1)) K (nI (c k + msum d k i)) (nI (4 * p + i)) 0 m := fun h => ⟨fun e => absurd rfl e, fun _ => fin 0 h⟩
        have in1 : ¬ cin_ (d i) k = 0 → j_Model_held_L84 (nI p) (nI k) (j_Model_held_L17 (nI p) (nI k) K (n + 1)) K (nI (c k + msum d k i)) (nI (4 * p + i)) 1 m := by
          intro hn
          refine ⟨fun _ => ⟨pz_in (by omega) (by omega), ?_⟩, fun e => absurd e (by decide)⟩
          rw [nI_clamp (by omega), h2]
          unfold cin_ at hn
          refine ⟨fun e => ⟨pz_in (by omega) (by omega), fun e2 => ?_, fun e2 => ?_⟩, fun e => ?_⟩
          · rw [pz_0 (by omega)] at e
            have e2 : ¬ d i % 4 = 1 := fun z => e2 (by rw [z]; rfl)
            rw [if_neg e] at hn
            refine fin 4 ?_
            unfold cin_
            rw [if_neg e]
            split at hn
            · rename_i hk2
              rw [if_pos hk2, if_neg e2]
            · exact absurd rfl hn
          · rw [pz_0 (by omega)] at e
            have e2 : d i % 4 = 1 := (nI_eq (b := 1) (by omega) (by omega)).mp e2
            rw [if_neg e] at hn
            refine fin 3 ?_
            unfold cin_
            rw [if_neg e]
            split at hn
            · rename_i hk2
              rw [if_pos hk2, if_pos e2]
            · exact absurd rfl hn
          · rw [pz_0 (by omega)] at e
            rw [if_pos e] at hn
            refine fin 1 ?_
            unfold cin_
            rw [if_pos e]
            split at hn
            · rename_i hk2
              rw [if_pos hk2]
            · exact absurd rfl hn
        refine ⟨fun e => ⟨fun e2 => in0 ?_, fun e2 => in1 ?_⟩, fun e => ⟨fun e2 => in0 ?_, fun e2 => ⟨fun e3 => in0 ?_, fun e3 => in1 ?_⟩⟩⟩
        · rw [pz_0 (by omega)] at e
          rw [pz_eq (by omega) (by omega)] at e2
          unfold cin_
          rw [if_neg e, if_neg e2]
        · rw [pz_0 (by omega)] at e
          rw [pz_eq (by omega) (by omega)] at e2
          unfold cin_
          rw [if_neg e, if_pos e2]
          split <;> omega
        · rw [pz_0 (by omega)] at e
          rw [pz_lt (by omega) (by omega)] at e2
          unfold cin_
          rw [if_pos e, if_neg (by omega)]
        · rw [pz_0 (by omega)] at e
          have e3 : nI (d i / 4) + nI 2 < nI k := e3
          rw [nI_add, pz_lt (by omega) (by omega)] at e3
          unfold cin_
          rw [if_pos e, if_neg (by omega)]
        · rw [pz_0 (by omega)] at e
          rw [pz_lt (by omega) (by omega)] at e2
          have e3 : ¬ nI (d i / 4) + nI 2 < nI k := e3
          rw [nI_add, pz_lt (by omega) (by omega)] at e3
          unfold cin_
          rw [if_pos e, if_pos (by omega)]
          decide
  refine ⟨by rw [pz_34]; exact pz_in (by omega) (by omega), fun y1 h1 y2 h2 => ⟨w + 1, ?_⟩⟩
  rw [h1, h2, pz_34, nI_clamp (by omega), hck, pz_4m]
  exact key w 0 (by omega)
