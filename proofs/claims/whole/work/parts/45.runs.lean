/-! the rest in runs: r runs begin at each kind -/
def rs (R : Nat → Nat) : Nat → Nat → Nat → Nat → Bool
  | 0, _, a, _ => decide (a = 0)
  | n + 1, k, a, b => if (27 ≤ k ∨ k % 9 = 0) ∧ ¬ a = 0 then false else if R k < a then false else rs R n (k + 1) (b + (R k - a)) (R k - a)
def rl (R : Nat → Nat) : Nat → Nat → Nat → Nat → List (Nat × Nat)
  | 0, _, _, _ => []
  | n + 1, k, a, b => List.replicate (R k - a) (0, k) ++ rl R n (k + 1) (b + (R k - a)) (R k - a)
theorem rs_edge {R : Nat → Nat} {n k a b : Nat} (h : 27 ≤ k ∨ k % 9 = 0) (ha : ¬ a = 0) : rs R (n + 1) k a b = false := by rw [rs, if_pos ⟨h, ha⟩]
theorem rs_lack {R : Nat → Nat} {n k a b : Nat} (h : R k < a) : rs R (n + 1) k a b = false := by
  rw [rs]
  split
  · rfl
  · rfl
theorem rs_go {R : Nat → Nat} {n k a b : Nat} (h : (27 ≤ k ∨ k % 9 = 0) → a = 0) (h2 : a ≤ R k) : rs R (n + 1) k a b = rs R n (k + 1) (b + (R k - a)) (R k - a) := by
  rw [rs, if_neg (fun e => e.2 (h e.1)), if_neg (by omega)]
theorem rs_end {R : Nat → Nat} {k a b : Nat} (ha : ¬ a = 0) : rs R 0 k a b = false := by rw [rs]; exact decide_eq_false ha
/-- no run begins at an honour, nor at rank 8 or 9 -/
theorem rs_late {R : Nat → Nat} {n k a b : Nat} (hn : k + (n + 1) = 34) (h : (27 ≤ k ∨ k % 9 = 0) → a = 0) (h2 : a ≤ R k) (hr : ¬ R k - a = 0) (hl : 27 ≤ k ∨ 7 ≤ k % 9) : rs R (n + 1) k a b = false := by
  rw [rs_go h h2]
  generalize hrr : R k - a = r at hr
  match n, hn with
  | 0, _ => exact rs_end (by omega)
  | 1, hn => exact rs_edge (by omega) (by omega)
  | n + 2, hn =>
    by_cases e : 27 ≤ k + 1 ∨ (k + 1) % 9 = 0
    · exact rs_edge e (by omega)
    · by_cases e2 : R (k + 1) < b + r
      · exact rs_lack e2
      · rw [rs_go (fun z => absurd z e) (by omega)]
        exact rs_edge (by omega) (by omega)
theorem rs_few1 {R : Nat → Nat} {n k a b : Nat} (h : (27 ≤ k ∨ k % 9 = 0) → a = 0) (h2 : a ≤ R k) (hl : R (k + 1) < b + (R k - a)) : rs R (n + 2) k a b = false := by
  rw [rs_go h h2]
  exact rs_lack hl
theorem rs_few2 {R : Nat → Nat} {n k a b : Nat} (h : (27 ≤ k ∨ k % 9 = 0) → a = 0) (h2 : a ≤ R k) (hl : R (k + 2) < R k - a) : rs R (n + 3) k a b = false := by
  rw [rs_go h h2]
  generalize R k - a = r at hl
  by_cases e : (27 ≤ k + 1 ∨ (k + 1) % 9 = 0) ∧ ¬ b + r = 0
  · exact rs_edge e.1 e.2
  · by_cases e2 : R (k + 1) < b + r
    · exact rs_lack e2
    · rw [rs_go (fun z => Classical.byContradiction fun y => e ⟨z, y⟩) (by omega)]
      exact rs_lack (show R (k + 2) < _ by omega)
theorem csum_0 {R : Nat → Nat} : ∀ {n}, (∀ j, j < n → R j = 0) → csum R n = 0
  | 0, _ => rfl
  | n + 1, h => by rw [csum, csum_0 (fun j hj => h j (by omega)), h n (by omega)]
theorem w_apart_rest {a1 : Int32} {K : Int32 → zm → Prop} {wd : Nat} (hwd : wd ≤ 4) (R : Nat → Nat) :
    ∀ (n k a b : Nat) (m : zm) (cur : Nat → Nat) (l : List (Nat × Nat)), k + n = 34 → pA m 52 cur → setsOk m l → 3 * l.length + csum cur 34 = 3 * wd → (∀ j, j < k → cur j = 0) → (k < 34 → cur k = R k - a ∧ a ≤ R k) → (k + 1 < 34 → cur (k + 1) = R (k + 1) - b ∧ b ≤ R (k + 1)) → (∀ j, k + 2 ≤ j → j < 34 → cur j = R j) → (¬ a = 0 → k < 27 ∧ ¬ k % 9 = 0) → (¬ b = 0 → k + 1 < 27 ∧ ¬ (k + 1) % 9 = 0) →
    (rs R n k a b = true → ∀ m', eqA m m' → setsOk m' (l ++ rl R n k a b) → m'.1 33 40 = nI wd → K 1 m') → (rs R n k a b = false → ∀ m', eqA m m' → K 0 m') → j_Model_apart_L104 a1 (nI wd) K (n + 1) (nI k) m := by
  intro n
  induction n with
  | zero =>
    intro k a b m cur l hk hc hl hsum h0 h1 h2 h3 ha hb hT hF
    have hk : k = 34 := by omega
    subst hk
    have ha0 : a = 0 := Classical.byContradiction fun e => by have := ha e; omega
    rw [csum_0 h0] at hsum
    have hlen : l.length = wd := by omega
    rw [j_Model_apart_L104]
    refine ⟨fun _ m7 h7 => ?_, fun h => absurd (by decide) h⟩
    have hs7 : setsOk m7 l := ⟨by rw [h7, pz_rI, if_neg (by omega)]; exact hl.1, fun i x hx => by rw [h7, pz_rI, if_neg (by omega), pz_rI, if_neg (by omega), pz_rI, if_neg (by omega)]; exact hl.2 i x hx⟩
    have ha7 : eqA m m7 := by rw [h7]; exact eqA.rf.w (Or.inr ⟨rfl, Or.inr rfl⟩) _
    rw [hs7.1, hlen]
    refine ⟨fun e => absurd rfl e, fun _ => ⟨Or.inr rfl, hT (by rw [rs, ha0]; rfl) m7 ha7 (by simpa [rl] using hs7) ?_⟩⟩
    rw [h7, pz_rI, if_pos ⟨rfl, rfl⟩, hl.1, hlen]
  | succ n ih =>
    intro k a b m cur l hk hc hl hsum h0 h1 h2 h3 ha hb hT hF
    have hk34 : k < 34 := by omega
    obtain ⟨ck, cak⟩ := h1 hk34
    obtain ⟨hck, hcb⟩ := hc k hk34
    have haE : (27 ≤ k ∨ k % 9 = 0) → a = 0 := fun e => Classical.byContradiction fun z => by have := ha z; omega
    have body : ∀ st : Nat, (st = 0 ∧ (27 ≤ k ∨ 7 ≤ k % 9)) ∨ (st = 1 ∧ k < 27 ∧ k % 9 ≤ 6) → j_Model_apart_L133 a1 (nI wd) (j_Model_apart_L104 a1 (nI wd) K (n + 1)) K (nI k) (nI st) m := by
      intro st hst
      refine ⟨pz_in hk34 (by omega), fun y10 h10 => ⟨cur k + 1, ?_⟩⟩
      rw [nI_clamp (by omega), hck] at h10
      rw [h10]
      have hsuit : k < 27 → k % 9 ≤ 6 → k + 2 < 27 := by omega
      refine w_apart_runs hk34 (fun e => by omega) hwd (cur k) m cur l hc rfl hl hsum (fun hgo m' am pm sm => ?_) (fun hno m' am => ?_)
      · -- go on
        generalize hr : cur k = r at hgo pm sm
        have hrR : R k - a = r := by omega
        have hr1 : ¬ r = 0 → k + 2 < 27 ∧ k % 9 ≤ 6 ∧ r ≤ cur (k + 1) ∧ r ≤ cur (k + 2) := fun z => by
          rcases hgo with g | g
          · exact absurd g z
          · have := hsuit (by omega) (by omega); exact ⟨by omega, by omega, g.2.1, g.2.2⟩
        have sum3 : csum (ap3 cur k r) 34 + 3 * r = csum cur 34 := by
          by_cases z : r = 0
          · subst z; rw [ap3_0]; rfl
          · have := hr1 z
            exact csum_ap3 (by omega) (by omega) (by omega) (by omega)
        refine ih (k + 1) (b + r) r m' (ap3 cur k r) (l ++ List.replicate r (0, k)) (by omega) pm sm ?_ ?_ ?_ ?_ ?_ ?_ ?_ ?_ ?_
        · rw [List.length_append, List.length_replicate]; omega
        · intro j hj
          rw [ap3_at]
          by_cases e : j = k
          · rw [if_pos (Or.inl e), e, hr]; omega
          · rw [if_neg (by omega)]; exact h0 j (by omega)
        · intro hk1
          have := h2 hk1
          rw [ap3_at, if_pos (by omega)]
          by_cases z : r = 0
          · omega
          · have := hr1 z; omega
        · intro hk2
          have e2 := h3 (k + 2) (by omega) (by omega)
          rw [ap3_at, if_pos (by omega)]
          show cur (k + 2) - r = R (k + 2) - r ∧ r ≤ R (k + 2)
          by_cases z : r = 0
          · rw [e2]; exact ⟨rfl, by omega⟩
          · have := hr1 z; rw [e2]; exact ⟨rfl, by omega⟩
        · intro j hj hj2
          rw [ap3_at, if_neg (by omega)]
          exact h3 j (by omega) hj2
        · intro z
          by_cases z2 : r = 0
          · exact hb (by omega)
          · have := hr1 z2; omega
        · intro z
          have := hr1 z
          omega
        · intro hrs m2 am2 sm2 o2
          rw [rs_go haE cak, hrR] at hT
          refine hT hrs m2 (am.trans am2) ?_ o2
          rw [rl, hrR, ← List.append_assoc]
          exact sm2
        · intro hrs m2 am2
          rw [rs_go haE cak, hrR] at hF
          exact hF hrs m2 (am.trans am2)
      · -- it fails
        refine hF ?_ m' am
        have hr0 : ¬ R k - a = 0 := fun e => hno (Or.inl (by omega))
        rcases hst with ⟨s0, hlate⟩ | ⟨s1, hs27, hs6⟩
        · exact rs_late hk haE cak hr0 hlate
        · have hkk := hsuit hs27 hs6
          obtain ⟨c1, b1⟩ := h2 (by omega)
          have c2 := h3 (k + 2) (by omega) (by omega)
          obtain ⟨n', rfl⟩ : ∃ n', n = n' + 2 := ⟨n - 2, by omega⟩
          by_cases z : R (k + 1) < b + (R k - a)
          · exact rs_few1 haE cak z
          · refine rs_few2 haE cak ?_
            apply Classical.byContradiction
            intro y
            exact hno (Or.inr ⟨by omega, by omega, by omega⟩)
    rw [j_Model_apart_L104]
    refine ⟨fun h => ?_, fun _ => ⟨fun h => ?_, fun h => ?_⟩⟩
    · have h : 34 ≤ k := (nI_leI (a := 34) (by omega) (by omega)).mp h
      omega
    · exact body 0 (Or.inl ⟨rfl, Or.inl ((nI_leI (a := 27) (by omega) (by omega)).mp h)⟩)
    · have h : ¬ 27 ≤ k := fun e => h ((nI_leI (a := 27) (by omega) (by omega)).mpr e)
      rw [j_Model_rank, pz_rem9 (by omega), nI_1]
      refine ⟨fun e => ?_, fun e => ?_⟩
      · have e : 8 ≤ k % 9 + 1 := (nI_leI (a := 8) (by omega) (by omega)).mp e
        exact body 0 (Or.inl ⟨rfl, Or.inr (by omega)⟩)
      · have e : ¬ 8 ≤ k % 9 + 1 := fun z => e ((nI_leI (a := 8) (by omega) (by omega)).mpr z)
        exact body 1 (Or.inr ⟨rfl, by omega, by omega⟩)
