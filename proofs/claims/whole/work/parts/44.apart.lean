/-! THE REFERENCE: tiles taken apart by a choice of triplets -/
def apx (q j : Nat) : Prop := (52 ≤ q ∧ q ≤ 55) ∨ (q = 33 ∧ (j = 39 ∨ j = 40))
def eqA (m m' : zm) : Prop := ∀ q j, ¬ apx q j → m'.1 q j = m.1 q j ∧ m'.2 q j = m.2 q j
theorem eqA.rf {m : zm} : eqA m m := fun _ _ _ => ⟨rfl, rfl⟩
theorem eqA.trans {m m1 m2 : zm} (h1 : eqA m m1) (h2 : eqA m1 m2) : eqA m m2 := fun q j h => ⟨(h2 q j h).1.trans (h1 q j h).1, (h2 q j h).2.trans (h1 q j h).2⟩
theorem eqA.w {m m1 : zm} (h : eqA m m1) {q j : Nat} (hs : apx q j) (x : Int32) : eqA m (zm_wI m1 q j x) := fun a b hn => by
  rw [pz_rI, pz_rI2]
  rw [if_neg (fun e => hn (by rw [e.1, e.2]; exact hs))]
  exact h a b hn
theorem eqA.F {m m' : zm} (h : eqA m m') : eqF m m' := fun q j hn => h q j (fun e => hn (by
  rcases e with e | e
  · exact Or.inl (by omega)
  · exact Or.inr (by omega)))
/-- the sets that were found: forms and kinds, none open -/
def setsOk (m : zm) (l : List (Nat × Nat)) : Prop := m.1 33 39 = nI l.length ∧ ∀ (i : Nat) (x : Nat × Nat), l[i]? = some x → m.1 54 i = nI x.1 ∧ m.1 53 i = nI x.2 ∧ m.1 55 i = 0
theorem w_Model_add {a k : Nat} {l : List (Nat × Nat)} {m : zm} {K : zm → Prop} (hl : setsOk m l) (h8 : l.length < 8) (hK : ∀ m', eqA m m' → (∀ j, m'.1 52 j = m.1 52 j) → setsOk m' (l ++ [(a, k)]) → K m') : j_Model_add (nI a) (nI k) m K := by
  obtain ⟨hs, hi⟩ := hl
  have h39 : ∀ (q j : Nat) (x : Int32) (m1 : zm), q ≠ 33 → m1.1 33 39 = nI l.length → (zm_wI m1 q j x).1 33 39 = nI l.length := fun q j x m1 hq h => by
    rw [pz_rI, if_neg (fun e => hq e.1.symm)]; exact h
  refine ⟨by rw [hs]; exact pz_in h8 (by omega), fun m1 h1 => ?_⟩
  have g1 : m1.1 33 39 = nI l.length := by rw [h1]; exact h39 _ _ _ _ (by omega) hs
  refine ⟨by rw [g1]; exact pz_in h8 (by omega), fun m2 h2 => ?_⟩
  have g2 : m2.1 33 39 = nI l.length := by rw [h2]; exact h39 _ _ _ _ (by omega) g1
  refine ⟨by rw [g2]; exact pz_in h8 (by omega), fun m3 h3 => ?_⟩
  have g3 : m3.1 33 39 = nI l.length := by rw [h3]; exact h39 _ _ _ _ (by omega) g2
  intro m4 h4
  rw [hs, nI_clamp (by omega)] at h1
  rw [g1, nI_clamp (by omega)] at h2
  rw [g2, nI_clamp (by omega)] at h3
  rw [g3, nI_1] at h4
  refine hK m4 ?_ ?_ ?_
  · rw [h4, h3, h2, h1]
    exact (((eqA.rf.w (Or.inl ⟨by omega, by omega⟩) _).w (Or.inl ⟨by omega, by omega⟩) _).w (Or.inl ⟨by omega, by omega⟩) _).w (Or.inr ⟨rfl, Or.inl rfl⟩) _
  · intro j
    rw [h4, h3, h2, h1]
    simp [pz_rI]
  · refine ⟨by rw [h4, pz_rI, if_pos ⟨rfl, rfl⟩, List.length_append]; rfl, fun i x hx => ?_⟩
    by_cases hil : i < l.length
    · rw [List.getElem?_append_left hil] at hx
      obtain ⟨e1, e2, e3⟩ := hi i x hx
      rw [h4, h3, h2, h1]
      have hne : ¬ i = l.length := by omega
      simp [pz_rI, hne, e1, e2, e3]
    · rw [List.getElem?_append_right (by omega)] at hx
      have hz : i - l.length < 1 := (List.getElem?_eq_some_iff.mp hx).1
      have hi2 : i = l.length := by omega
      subst hi2
      rw [Nat.sub_self] at hx
      cases hx
      rw [h4, h3, h2, h1]
      simp [pz_rI]
theorem setsOk.keep52 {m : zm} {l : List (Nat × Nat)} {j : Nat} {x : Int32} (h : setsOk m l) : setsOk (zm_wI m 52 j x) l :=
  ⟨by rw [pz_rI, if_neg (by omega)]; exact h.1, fun i y hy => by rw [pz_rI, if_neg (by omega), pz_rI, if_neg (by omega), pz_rI, if_neg (by omega)]; exact h.2 i y hy⟩
/-- a count less -/
def dn (R : Nat → Nat) (k r : Nat) : Nat → Nat := fun j => if j = k then R j - r else R j
theorem csum_dn {R : Nat → Nat} {k r : Nat} (hr : r ≤ R k) : ∀ n, csum (dn R k r) n + (if k < n then r else 0) = csum R n
  | 0 => by simp [csum]
  | n + 1 => by
    have ih := csum_dn hr n
    rw [csum, csum]
    by_cases h : n = k
    · subst h
      rw [if_pos (Nat.lt_succ_self _)]
      rw [if_neg (Nat.lt_irrefl _)] at ih
      have e : dn R n r n = R n - r := by simp [dn]
      rw [e]
      omega
    · have e : dn R k r n = R n := by simp [dn, h]
      rw [e]
      by_cases hk : k < n
      · rw [if_pos hk] at ih
        rw [if_pos (by omega)]
        omega
      · rw [if_neg hk] at ih
        rw [if_neg (by omega)]
        omega
theorem csum_ge {R : Nat → Nat} : ∀ {n k : Nat}, k < n → R k ≤ csum R n
  | n + 1, k, h => by
    rw [csum]
    rcases Nat.lt_or_eq_of_le (Nat.lt_succ_iff.mp h) with e | e
    · have := csum_ge (R := R) e; omega
    · subst e; omega
def ap3 (R : Nat → Nat) (k r : Nat) : Nat → Nat := dn (dn (dn R k r) (k + 1) r) (k + 2) r
theorem ap3_at (R : Nat → Nat) (k r j : Nat) : ap3 R k r j = if j = k ∨ j = k + 1 ∨ j = k + 2 then R j - r else R j := by
  unfold ap3 dn
  by_cases h1 : j = k
  · subst h1; simp
  · by_cases h2 : j = k + 1
    · subst h2; simp
    · by_cases h3 : j = k + 2
      · subst h3; simp
      · simp [h1, h2, h3]
theorem ap3_0 (R : Nat → Nat) (k : Nat) : ap3 R k 0 = R := by funext j; rw [ap3_at]; simp
theorem ap3_add (R : Nat → Nat) (k r s : Nat) : ap3 (ap3 R k r) k s = ap3 R k (r + s) := by
  funext j
  rw [ap3_at, ap3_at, ap3_at]
  split <;> omega
theorem csum_ap3 {R : Nat → Nat} {k r : Nat} (hk : k + 2 < 34) (h0 : r ≤ R k) (h1 : r ≤ R (k + 1)) (h2 : r ≤ R (k + 2)) : csum (ap3 R k r) 34 + 3 * r = csum R 34 := by
  have e1 := csum_dn (R := R) (k := k) (r := r) h0 34
  have e2 := csum_dn (R := dn R k r) (k := k + 1) (r := r) (by simp [dn]; exact h1) 34
  have e3 := csum_dn (R := dn (dn R k r) (k + 1) r) (k := k + 2) (r := r) (by simp [dn]; exact h2) 34
  rw [if_pos (by omega)] at e1 e2 e3
  unfold ap3
  omega
theorem nI_dec {n : Nat} (h : 0 < n) : nI n - 1 = nI (n - 1) := by
  obtain ⟨j, rfl⟩ : ∃ j, n = j + 1 := ⟨n - 1, by omega⟩
  exact nI_pred j
/-- the runs that begin at a kind -/
theorem w_apart_runs {a1 a2 : Int32} {R104 : Int32 → zm → Prop} {K : Int32 → zm → Prop} {k st wd : Nat} (hk : k < 34) (hst : ¬ st = 0 → k + 2 < 34 ∧ st = 1) (hwd : wd ≤ 4) :
    ∀ (r : Nat) (m : zm) (R : Nat → Nat) (l : List (Nat × Nat)), pA m 52 R → R k = r → setsOk m l → 3 * l.length + csum R 34 = 3 * wd →
    ((r = 0 ∨ (¬ st = 0 ∧ r ≤ R (k + 1) ∧ r ≤ R (k + 2))) → ∀ m', eqA m m' → pA m' 52 (ap3 R k r) → setsOk m' (l ++ List.replicate r (0, k)) → R104 (nI (k + 1)) m') →
    ((¬ (r = 0 ∨ (¬ st = 0 ∧ r ≤ R (k + 1) ∧ r ≤ R (k + 2)))) → ∀ m', eqA m m' → K 0 m') →
    j_Model_apart_L144 a1 a2 R104 K (r + 1) (nI k) (nI st) (nI r) m := by
  intro r
  induction r with
  | zero =>
    intro m R l hR hr hl hsum hT hF
    rw [j_Model_apart_L144]
    refine ⟨fun _ y hy => ?_, fun h => absurd (by decide) h⟩
    rw [hy, nI_1]
    exact hT (Or.inl rfl) m eqA.rf (by rw [ap3_0]; exact hR) (by simpa using hl)
  | succ r ih =>
    intro m R l hR hr hl hsum hT hF
    have hrb := (hR k hk).2
    have hge := csum_ge (R := R) (n := 34) hk
    have hlen : l.length < 4 := by omega
    rw [j_Model_apart_L144]
    refine ⟨fun h => ?_, fun _ => ⟨fun h => ?_, fun h => ⟨fun h4 => ?_, fun _ => ?_⟩⟩⟩
    · have h : r + 1 ≤ 0 := (nI_leI (b := 0) (by omega) (by omega)).mp h
      omega
    · have h : st = 0 := by
        apply Classical.byContradiction
        intro e
        obtain ⟨_, e1⟩ := hst e
        subst e1
        exact absurd h (by decide)
      exact hF (by rintro (e | e); omega; exact e.1 h) m eqA.rf
    · rw [hl.1] at h4
      have h4 : 4 ≤ l.length := (nI_leI (a := 4) (by omega) (by omega)).mp h4
      omega
    · have hst0 : ¬ st = 0 := fun e => h (by rw [e]; rfl)
      obtain ⟨hk2, hst1⟩ := hst hst0
      obtain ⟨r1, b1⟩ := hR (k + 1) (by omega)
      obtain ⟨r2, b2⟩ := hR (k + 2) (by omega)
      obtain ⟨r0, b0⟩ := hR k (by omega)
      have n1 : nI k + 1 = nI (k + 1) := nI_1 k
      have n2 : nI k + 2 = nI (k + 2) := nI_add k 2
      rw [n1, n2, nI_clamp (n := k + 1) (by omega), nI_clamp (n := k + 2) (by omega), nI_clamp (n := k) (by omega), r1, r2, r0]
      refine ⟨pz_in (by omega) (by omega), fun e => ?_, fun e => ⟨pz_in (by omega) (by omega), fun e2 => ?_, fun e2 => ?_⟩⟩
      · rw [pz_0 (by omega)] at e
        exact hF (by rintro (z | z) <;> omega) m eqA.rf
      · rw [pz_0 (by omega)] at e e2
        refine ⟨pz_in (by omega) (by omega), pz_in (by omega) (by omega), fun m12 h12 => ⟨pz_in (by omega) (by omega), pz_in (by omega) (by omega), fun m13 h13 => ⟨pz_in (by omega) (by omega), pz_in (by omega) (by omega), fun m14 h14 => ?_⟩⟩⟩
        rw [nI_dec (by omega)] at h12
        have q1 : m12.1 52 (k + 1) = nI (R (k + 1)) := by rw [h12, pz_rI, if_neg (by omega)]; exact r1
        rw [q1, nI_dec (by omega)] at h13
        have q2 : m13.1 52 (k + 2) = nI (R (k + 2)) := by rw [h13, pz_rI, if_neg (by omega), h12, pz_rI, if_neg (by omega)]; exact r2
        rw [q2, nI_dec (by omega)] at h14
        have s14 : setsOk m14 l := by rw [h14, h13, h12]; exact hl.keep52.keep52.keep52
        have a14 : eqA m m14 := by
          rw [h14, h13, h12]
          exact ((eqA.rf.w (Or.inl ⟨by omega, by omega⟩) _).w (Or.inl ⟨by omega, by omega⟩) _).w (Or.inl ⟨by omega, by omega⟩) _
        have p14 : ∀ j, j < 34 → m14.1 52 j = nI (ap3 R k 1 j) := by
          intro j hj
          rw [ap3_at, h14, h13, h12]
          obtain ⟨z1, z2⟩ := hR j hj
          by_cases e0 : j = k
          · subst e0
            rw [pz_rI, if_neg (by omega), pz_rI, if_neg (by omega), pz_rI, if_pos ⟨rfl, rfl⟩, if_pos (Or.inl rfl)]
          · by_cases e1 : j = k + 1
            · subst e1
              rw [pz_rI, if_neg (by omega), pz_rI, if_pos ⟨rfl, rfl⟩, if_pos (by omega)]
            · by_cases e3 : j = k + 2
              · subst e3
                rw [pz_rI, if_pos ⟨rfl, rfl⟩, if_pos (by omega)]
              · rw [pz_rI, if_neg (fun z => e3 z.2), pz_rI, if_neg (fun z => e1 z.2), pz_rI, if_neg (fun z => e0 z.2), if_neg (by omega)]
                exact z1
        refine w_Model_add (a := 0) s14 (by omega) (fun m15 a15 f15 s15 y16 hy16 => ?_)
        have e16 : y16 = nI r := by rw [hy16]; exact pk_m1 r
        rw [e16]
        have hk0 : 1 ≤ R k := by omega
        have hk1 : 1 ≤ R (k + 1) := by omega
        have hk22 : 1 ≤ R (k + 2) := by omega
        have sum3 := csum_ap3 (R := R) (k := k) (r := 1) (by omega) hk0 hk1 hk22
        have at0 : ap3 R k 1 k = r := by rw [ap3_at, if_pos (Or.inl rfl)]; omega
        have at1 : ap3 R k 1 (k + 1) = R (k + 1) - 1 := by rw [ap3_at, if_pos (by omega)]
        have at2 : ap3 R k 1 (k + 2) = R (k + 2) - 1 := by rw [ap3_at, if_pos (by omega)]
        have lrep : ∀ x : Nat, (l ++ [(0, k)]) ++ List.replicate x (0, k) = l ++ List.replicate (x + 1) (0, k) := fun x => by
          rw [List.append_assoc, List.replicate_succ]; rfl
        refine ih m15 (ap3 R k 1) (l ++ [(0, k)]) (fun j hj => ⟨by rw [f15 j]; exact p14 j hj, by rw [ap3_at]; have := (hR j hj).2; split <;> omega⟩) at0 s15 (by rw [List.length_append]; simp only [List.length_cons, List.length_nil]; omega) (fun hc m' am pm sm => ?_) (fun hc m' am => ?_)
        · refine hT (Or.inr ⟨hst0, ?_, ?_⟩) m' ((a14.trans a15).trans am) ?_ ?_
          · rcases hc with hc | hc <;> omega
          · rcases hc with hc | hc <;> omega
          · rw [ap3_add, Nat.add_comm] at pm; exact pm
          · rw [lrep] at sm; exact sm
        · refine hF ?_ m' ((a14.trans a15).trans am)
          rintro (z | ⟨z1, z2, z3⟩)
          · omega
          · exact hc (Or.inr ⟨hst0, by omega, by omega⟩)
      · rw [pz_0 (by omega)] at e e2
        exact hF (by rintro (z | z) <;> omega) m eqA.rf
