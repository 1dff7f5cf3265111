/-! PURE: small numbers, memories -/
theorem pz_rI (m : zm) (q j : Nat) (x : Int32) (a b : Nat) : (zm_wI m q j x).1 a b = if a = q ∧ b = j then x else m.1 a b := rfl
theorem pz_rI2 (m : zm) (q j : Nat) (x : Int32) : (zm_wI m q j x).2 = m.2 := rfl
theorem pz_rL (m : zm) (q j : Nat) (x : Int64) (a b : Nat) : (zm_wL m q j x).2 a b = if a = q ∧ b = j then x else m.2 a b := rfl
theorem pz_rL2 (m : zm) (q j : Nat) (x : Int64) : (zm_wL m q j x).1 = m.1 := rfl
theorem pz_le {a b : Nat} (ha : a < 2 ^ 31) (hb : b < 2 ^ 31) : (nI a ≤ nI b) = (a ≤ b) := propext (nI_leI ha hb)
theorem pz_lt {a b : Nat} (ha : a < 2 ^ 31) (hb : b < 2 ^ 31) : (nI a < nI b) = (a < b) := propext (nI_ltI ha hb)
theorem pz_eq {a b : Nat} (ha : a < 2 ^ 31) (hb : b < 2 ^ 31) : (nI a = nI b) = (a = b) := propext (nI_eq ha hb)
theorem pz_sub2 (x y z : Int32) : x - y - z = x - (y + z) := by
  rw [Int32.sub_eq_add_neg, Int32.sub_eq_add_neg, Int32.sub_eq_add_neg, Int32.neg_add, Int32.add_assoc, ← Int32.sub_eq_add_neg]
theorem pz_sub_le {a b : Nat} (ha : a < 2 ^ 30) (hb : b < 2 ^ 30) : (0 ≤ nI a - nI b) = (b ≤ a) := by
  refine propext ⟨fun h => ?_, fun h => ?_⟩
  · rcases Nat.lt_or_ge a b with q | q
    · exact absurd h (Int32.not_le.mpr (pk_sneg hb q))
    · exact q
  · rw [pk_sub h]
    exact nI_pos' (by omega)
theorem pz_rem3 {a : Nat} (h : a < 2 ^ 31) : nI a - nI a / 3 * 3 = nI (a % 3) := pk_rem (d := 3) h (by decide) (by decide)
theorem pz_rem4 {a : Nat} (h : a < 2 ^ 31) : nI a - nI a / 4 * 4 = nI (a % 4) := pk_rem (d := 4) h (by decide) (by decide)
theorem pz_rem9 {a : Nat} (h : a < 2 ^ 31) : nI a - nI a / 9 * 9 = nI (a % 9) := pk_rem (d := 9) h (by decide) (by decide)
theorem pz_rem2 {a : Nat} (h : a < 2 ^ 31) : nI a - nI a / 2 * 2 = nI (a % 2) := pk_rem (d := 2) h (by decide) (by decide)
theorem pz_div4 {a : Nat} (h : a < 2 ^ 31) : nI a / 4 = nI (a / 4) := pk_div (d := 4) h (by decide) (by decide)
theorem pz_div9 {a : Nat} (h : a < 2 ^ 31) : nI a / 9 = nI (a / 9) := pk_div (d := 9) h (by decide) (by decide)
theorem pz_div2 {a : Nat} (h : a < 2 ^ 31) : nI a / 2 = nI (a / 2) := pk_div (d := 2) h (by decide) (by decide)
theorem pz_0 {a : Nat} (h : a < 2 ^ 31) : (nI a = 0) = (a = 0) := by rw [← nI_0]; exact pz_eq h (by decide)
/-- an array of 34 small counts -/
def pA (m : zm) (q : Nat) (c : Nat → Nat) : Prop := ∀ k, k < 34 → m.1 q k = nI (c k) ∧ c k < 2000
theorem pz_in {k n : Nat} (h : k < n) (hn : n < 2 ^ 31) : vp_in (nI k) n := vp_in_nI h hn
/-- sets from kind k on, n kinds left; a runs want this kind, b of them the next one too; pr is the pair -/
def g_sets (c : Nat → Nat) (pr : Nat) : Nat → Nat → Nat → Nat → Bool
  | 0, _, a, _ => decide (a = 0)
  | n + 1, k, a, b => if (27 ≤ k ∨ k % 9 = 0) ∧ ¬ a = 0 then false else if c k < a + (if k = pr then 2 else 0) then false else g_sets c pr n (k + 1) (b + (c k - (a + (if k = pr then 2 else 0))) % 3) ((c k - (a + (if k = pr then 2 else 0))) % 3)
theorem g_edge {c : Nat → Nat} {pr n k a b : Nat} (h : (27 ≤ k ∨ k % 9 = 0) ∧ ¬ a = 0) : g_sets c pr (n + 1) k a b = false := by rw [g_sets, if_pos h]
theorem g_lack {c : Nat → Nat} {pr n k a b t : Nat} (h : ¬ ((27 ≤ k ∨ k % 9 = 0) ∧ ¬ a = 0)) (ht : (if k = pr then 2 else 0) = t) (h2 : c k < a + t) : g_sets c pr (n + 1) k a b = false := by rw [g_sets, if_neg h, ht, if_pos h2]
theorem g_go {c : Nat → Nat} {pr n k a b t : Nat} (h : ¬ ((27 ≤ k ∨ k % 9 = 0) ∧ ¬ a = 0)) (ht : (if k = pr then 2 else 0) = t) (h2 : ¬ c k < a + t) : g_sets c pr (n + 1) k a b = g_sets c pr n (k + 1) (b + (c k - (a + t)) % 3) ((c k - (a + t)) % 3) := by rw [g_sets, if_neg h, ht, if_neg h2]
theorem w_Shape_isSetsBut_L7 {q pr : Nat} {m : zm} {c : Nat → Nat} {K : Int32 → zm → Prop} (hc : pA m q c) (hpr : pr < 34) :
    ∀ (n k a b : Nat), k + n = 34 → a ≤ 4 → b ≤ 2 → K (if g_sets c pr n k a b then 1 else 0) m → j_Shape_isSetsBut_L7 q (nI pr) K (n + 1) (nI a) (nI b) (nI k) m := by
  intro n
  induction n with
  | zero =>
    intro k a b hk ha hb hK
    have hk : k = 34 := by omega
    subst hk
    rw [j_Shape_isSetsBut_L7]
    refine ⟨fun _ => ⟨fun h => ?_, fun h => ?_⟩, fun h => absurd (by decide) h⟩
    · have h : ¬ a = 0 := fun e => h (by rw [e]; rfl)
      rw [g_sets, decide_eq_false h] at hK
      exact ⟨Or.inl rfl, hK⟩
    · have h : a = 0 := (nI_eq (by omega) (by omega)).mp (h.trans nI_0.symm)
      rw [g_sets, decide_eq_true h] at hK
      exact ⟨Or.inr rfl, hK⟩
  | succ n ih =>
    intro k a b hk ha hb hK
    have hk34 : k < 34 := by omega
    obtain ⟨hck, hcb⟩ := hc k hk34
    -- the kind itself
    have main : (¬ ((27 ≤ k ∨ k % 9 = 0) ∧ ¬ a = 0)) → j_Shape_isSetsBut_L35 q (nI pr) (j_Shape_isSetsBut_L7 q (nI pr) K (n + 1)) K (nI a) (nI b) (nI k) m := by
      intro hbd
      refine ⟨pz_in hk34 (by omega), ?_⟩
      have step : ∀ t : Nat, t ≤ 2 → (if k = pr then 2 else 0) = t → j_Shape_isSetsBut_L52 q (nI pr) (j_Shape_isSetsBut_L7 q (nI pr) K (n + 1)) K (nI b) (nI k) (nI t) ((m.1 q (Int32.toNatClampNeg (nI k))) - nI a) m := by
        intro t ht he
        intro y1 hy1
        rw [nI_clamp (by omega), hck, pz_sub2, nI_add] at hy1
        refine ⟨fun h => ?_, fun h => ?_⟩
        · have h : a + t ≤ c k := by rw [hy1, pz_sub_le (by omega) (by omega)] at h; exact h
          rw [pk_sub h] at hy1
          intro y2 hy2 y3 hy3 y4 hy4
          have e2 : y2 = nI ((c k - (a + t)) % 3) := by rw [hy2, hy1]; exact pz_rem3 (by omega)
          have e3 : y3 = nI (b + (c k - (a + t)) % 3) := by rw [hy3, e2, nI_add]
          have e4 : y4 = nI (k + 1) := by rw [hy4]; exact nI_1 k
          rw [e2, e3, e4]
          rw [g_go hbd he (by omega)] at hK
          exact ih (k + 1) _ _ (by omega) (by omega) (by omega) hK
        · have h : ¬ a + t ≤ c k := by rw [hy1, pz_sub_le (by omega) (by omega)] at h; exact h
          rw [g_lack hbd he (by omega)] at hK
          exact hK
      refine ⟨fun h => ?_, fun h => ?_⟩
      · have h : ¬ k = pr := fun e => h (by rw [e])
        exact step 0 (by omega) (if_neg h)
      · have h : k = pr := (nI_eq (by omega) (by omega)).mp h
        exact step 2 (by omega) (if_pos h)
    have edge : (27 ≤ k ∨ k % 9 = 0) → j_Shape_isSetsBut_L29 q (nI pr) (j_Shape_isSetsBut_L7 q (nI pr) K (n + 1)) K (nI a) (nI b) (nI k) m := by
      intro hb2
      refine ⟨fun h => ?_, fun h => ?_⟩
      · have h : a = 0 := (nI_eq (by omega) (by omega)).mp (h.trans nI_0.symm)
        exact main (fun q => q.2 h)
      · have h : ¬ a = 0 := fun e => h (by rw [e]; rfl)
        rw [g_edge ⟨hb2, h⟩] at hK
        exact hK
    rw [j_Shape_isSetsBut_L7]
    refine ⟨fun h => ?_, fun _ => ⟨fun h => ?_, fun h => ⟨fun h2 => ?_, fun h2 => ?_⟩⟩⟩
    · have h : 34 ≤ k := (nI_leI (a := 34) (by omega) (by omega)).mp h
      omega
    · exact edge (Or.inl ((nI_leI (a := 27) (by omega) (by omega)).mp h))
    · have h : ¬ 27 ≤ k := fun e => h ((nI_leI (a := 27) (by omega) (by omega)).mpr e)
      have h2 : ¬ k % 9 = 0 := fun e => h2 (by
        rw [pz_rem9 (by omega), e]; rfl)
      exact main (fun q => q.1.elim h h2)
    · refine edge (Or.inr ?_)
      rw [pz_rem9 (by omega), pz_0 (by omega)] at h2
      exact h2
theorem w_Shape_isSetsBut {q pr : Nat} {m : zm} {c : Nat → Nat} {K : Int32 → zm → Prop} (hc : pA m q c) (hpr : pr < 34) (hK : K (if g_sets c pr 34 0 0 0 then 1 else 0) m) : j_Shape_isSetsBut q (nI pr) m K :=
  ⟨35, w_Shape_isSetsBut_L7 hc hpr 34 0 0 0 rfl (by omega) (by omega) hK⟩
