theorem pz_d63 : ∀ k, k < 64 → ((((nI k).toInt64 &&& 63) : Int64).toBitVec.smod 64).toNat = k := by decide +kernel
theorem pz_lbit {a k : Nat} (ha : a < 2 ^ 62) (hk : k < 64) : (lN a >>> ((nI k).toInt64 &&& 63)) &&& 1 = lN (a / 2 ^ k % 2) := by
  rw [pf_shr (pz_d63 k hk) ha]
  have : a / 2 ^ k ≤ a := Nat.div_le_self _ _
  exact wb_a1 (by omega)
theorem pz_lbit1 {a k : Nat} (ha : a < 2 ^ 62) (hk : k < 64) : (lg_cmp ((lN a >>> ((nI k).toInt64 &&& 63)) &&& 1) 1 = 0) = (a.testBit k = true) := by
  rw [pz_cmp0, pz_lbit ha hk, Nat.testBit_eq_decide_div_mod_eq]
  refine propext (Iff.trans (pk_lEQ (b := 1) (by omega) (by decide)) ?_)
  simp
theorem pz_lbit0 {a k : Nat} (ha : a < 2 ^ 62) (hk : k < 64) : (lg_cmp ((lN a >>> ((nI k).toInt64 &&& 63)) &&& 1) 0 = 0) = (a.testBit k = false) := by
  rw [pz_cmp0, pz_lbit ha hk, Nat.testBit_eq_decide_div_mod_eq]
  refine propext (Iff.trans (pk_lEQ (b := 0) (by omega) (by decide)) ?_)
  simp
theorem pz_100 (p k : Nat) : (100 : Int32) * nI p + nI k = nI (100 * p + k) := by
  rw [show (100 : Int32) = nI 100 from rfl, pk_mul, nI_add]
/-- the discards of player p -/
def rV (m : zm) (p rc : Nat) (rv : Nat → Nat) : Prop := m.1 40 p = nI rc ∧ rc < 100 ∧ ∀ i, i < rc → m.1 41 (100 * p + i) = nI (rv i) ∧ rv i < 34
theorem rV.keep {m m' : zm} {p rc : Nat} {rv : Nat → Nat} (h : rV m p rc rv) (e : eqF m m') : rV m' p rc rv :=
  ⟨by rw [(e 40 _ (ns_lo (by omega) (by omega))).1]; exact h.1, h.2.1, fun i hi => by rw [(e 41 _ (ns_lo (by omega) (by omega))).1]; exact h.2.2 i hi⟩
theorem w_Model_ownWait {p w rc : Nat} {c d rv : Nat → Nat} {m : zm} {K : Int32 → zm → Prop} (hp : p < 4) (hr : rP m p c d w) (h5 : ∀ j, c j < 5) (hs : 3 * w + csum c 34 = 13 ∨ 3 * w + csum c 34 = 14) (hv : rV m p rc rv)
    (hT : (∃ i, i < rc ∧ (wm_ c d w).testBit (rv i) = true) → ∀ m', eqF m m' → K 1 m') (hF : (¬ ∃ i, i < rc ∧ (wm_ c d w).testBit (rv i) = true) → ∀ m', eqF m m' → K 0 m') : j_Model_ownWait (nI p) m K := by
  refine w_Model_waitsOf hp hr h5 hs (fun m1 em1 => ⟨rc + 1, ?_⟩)
  obtain ⟨v1, v2, v3⟩ := hv.keep em1
  have hlt := wm_lt c d w
  have h62 : (2 : Nat) ^ 34 < 2 ^ 62 := by decide
  have key : ∀ (n i : Nat), i + n = rc → ((∃ j, j < i ∧ (wm_ c d w).testBit (rv j) = true) → j_Model_ownWait_L12 (nI p) K (n + 1) (lN (wm_ c d w)) 1 (nI i) m1) ∧ ((¬ ∃ j, j < i ∧ (wm_ c d w).testBit (rv j) = true) → j_Model_ownWait_L12 (nI p) K (n + 1) (lN (wm_ c d w)) 0 (nI i) m1) := by
    intro n
    induction n with
    | zero =>
      intro i hi
      have hi : i = rc := by omega
      subst hi
      rw [j_Model_ownWait_L12, j_Model_ownWait_L12, nI_clamp (by omega), v1]
      exact ⟨fun h => ⟨pz_in hp (by omega), fun _ => ⟨Or.inr rfl, hT h m1 em1⟩, fun z => absurd (Int32.le_refl _) z⟩, fun h => ⟨pz_in hp (by omega), fun _ => ⟨Or.inl rfl, hF h m1 em1⟩, fun z => absurd (Int32.le_refl _) z⟩⟩
    | succ n ih =>
      intro i hi
      obtain ⟨ih1, ih0⟩ := ih (i + 1) (by omega)
      obtain ⟨u1, u2⟩ := v3 i (by omega)
      have nle : ¬ nI rc ≤ nI i := fun h => by rw [pz_le (by omega) (by omega)] at h; omega
      have yes : (∃ j, j < i + 1 ∧ (wm_ c d w).testBit (rv j) = true) → j_Model_ownWait_L49 (nI p) (j_Model_ownWait_L12 (nI p) K (n + 1)) K (lN (wm_ c d w)) (nI i) m1 := fun h y hy => by rw [hy, nI_1]; exact ih1 h
      rw [j_Model_ownWait_L12, j_Model_ownWait_L12, nI_clamp (by omega), v1]
      refine ⟨fun h => ⟨pz_in hp (by omega), fun z => absurd z nle, fun _ => ⟨fun _ => yes ?_, fun z => absurd z (by decide)⟩⟩, fun h => ⟨pz_in hp (by omega), fun z => absurd z nle, fun _ => ⟨fun z => absurd rfl z, fun _ => ?_⟩⟩⟩
      · obtain ⟨j, h1, h2⟩ := h
        exact ⟨j, by omega, h2⟩
      · rw [pz_100, nI_clamp (by omega), u1, pz_lbit1 (by omega) (by omega)]
        refine ⟨pz_in (by omega) (by omega), fun hb y hy => ?_, fun hb => yes ⟨i, by omega, hb⟩⟩
        rw [hy, nI_1]
        refine ih0 (fun ⟨j, z1, z2⟩ => ?_)
        rcases Nat.lt_or_eq_of_le (Nat.lt_succ_iff.mp z1) with e | e
        · exact h ⟨j, e, z2⟩
        · subst e; exact hb z2
  exact (key rc 0 (by omega)).2 (fun ⟨j, z, _⟩ => by omega)
theorem w_Model_isFuriten {p w ms rc : Nat} {c d rv : Nat → Nat} {f : Nat → Bool} {m : zm} {K : Int32 → zm → Prop} (hp : p < 4) (hr : rP m p c d w) (h5 : ∀ j, c j < 5) (hs : 3 * w + csum c 34 = 13 ∨ 3 * w + csum c 34 = 14) (hv : rV m p rc rv) (hms : m.1 44 p = nI ms) (hm1 : ms < 1000) (hf : ∀ k, k < 34 → (f k = true ↔ ∃ i, i < rc ∧ rv i = k))
    (hT : fur_ c d w ms f → ∀ m', eqF m m' → K 1 m') (hF : ¬ fur_ c d w ms f → ∀ m', eqF m m' → K 0 m') : j_Model_isFuriten (nI p) m K := by
  rw [j_Model_isFuriten, nI_clamp (by omega), hms, pz_0 (by omega)]
  refine ⟨pz_in hp (by omega), fun h => ⟨Or.inr rfl, hT (Or.inl h) m eqF.rf⟩, fun h => w_Model_ownWait hp hr h5 hs hv (fun ⟨i, hi, hb⟩ m' em => ?_) (fun hn m' em => ?_)⟩
  · have hk := (hv.2.2 i hi).2
    obtain ⟨z1, z2⟩ := (wm_bit hk).mp hb
    exact ⟨fun z => absurd z (by decide), fun _ => ⟨Or.inr rfl, hT (Or.inr ⟨z1, rv i, hk, z2, (hf _ hk).mpr ⟨i, hi, rfl⟩⟩) m' em⟩⟩
  · refine ⟨fun _ => ⟨Or.inl rfl, hF ?_ m' em⟩, fun z => absurd rfl z⟩
    rintro (z | ⟨z, k, hk, zw, zf⟩)
    · exact z h
    · obtain ⟨i, hi, e⟩ := (hf k hk).mp zf
      exact hn ⟨i, hi, by rw [e]; exact (wm_bit hk).mpr ⟨z, zw⟩⟩
