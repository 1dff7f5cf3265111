/-! greedy sets are as good as any choice of triplets -/
def Vs (c : Nat → Nat) : Nat → Nat → Nat → Nat → Prop
  | 0, _, a, _ => a = 0
  | n + 1, k, a, b => ((27 ≤ k ∨ k % 9 = 0) → a = 0) ∧ ∃ t r, c k = a + 3 * t + r ∧ Vs c n (k + 1) (b + r) r
theorem Vs_a {c : Nat → Nat} {n k a b : Nat} (h : Vs c n k (a + 3) b) : Vs c n k a b := by
  cases n with
  | zero => exact absurd h (by unfold Vs; omega)
  | succ n =>
    obtain ⟨h1, t, r, h2, h3⟩ := h
    exact ⟨fun e => by have := h1 e; omega, t + 1, r, by omega, h3⟩
theorem Vs_ab {c : Nat → Nat} {n k a b : Nat} (h : Vs c n k (a + 3) (b + 3)) : Vs c n k a b := by
  cases n with
  | zero => exact absurd h (by unfold Vs; omega)
  | succ n =>
    obtain ⟨h1, t, r, h2, h3⟩ := h
    refine ⟨fun e => by have := h1 e; omega, t + 1, r, by omega, ?_⟩
    rw [show b + 3 + r = (b + r) + 3 by omega] at h3
    exact Vs_a h3
theorem Vs_s {c : Nat → Nat} {n k a b : Nat} : ∀ s, Vs c n k (a + 3 * s) (b + 3 * s) → Vs c n k a b
  | 0, h => h
  | s + 1, h => Vs_s s (Vs_ab (by rw [show a + 3 * s + 3 = a + 3 * (s + 1) by omega, show b + 3 * s + 3 = b + 3 * (s + 1) by omega]; exact h))
theorem g_iff {c : Nat → Nat} {pr : Nat} (h2 : 2 ≤ c pr) : ∀ (n k a b : Nat), g_sets c pr n k a b = true ↔ Vs (dn c pr 2) n k a b
  | 0, k, a, b => by rw [g_sets, Vs]; exact decide_eq_true_iff
  | n + 1, k, a, b => by
    have hd : ∀ t, (if k = pr then 2 else 0) = t → dn c pr 2 k = c k - t ∧ t ≤ c k := by
      intro t ht
      unfold dn
      by_cases e : k = pr
      · subst e; rw [if_pos rfl] at ht; subst ht; rw [if_pos rfl]; exact ⟨rfl, h2⟩
      · rw [if_neg e] at ht; subst ht; rw [if_neg e]; exact ⟨rfl, Nat.zero_le _⟩
    obtain ⟨t0, ht0⟩ : ∃ t, (if k = pr then 2 else 0) = t := ⟨_, rfl⟩
    obtain ⟨hd1, hd2⟩ := hd t0 ht0
    rw [Vs]
    by_cases he : (27 ≤ k ∨ k % 9 = 0) ∧ ¬ a = 0
    · rw [g_edge he]
      exact ⟨fun z => absurd z (by decide), fun z => absurd (z.1 he.1) he.2⟩
    · have he2 : (27 ≤ k ∨ k % 9 = 0) → a = 0 := fun z => Classical.byContradiction fun y => he ⟨z, y⟩
      by_cases hl : c k < a + t0
      · rw [g_lack he ht0 hl]
        exact ⟨fun z => absurd z (by decide), fun ⟨_, t, r, z, _⟩ => by omega⟩
      · rw [g_go he ht0 hl, g_iff h2 n]
        have e3 : c k - (a + t0) = dn c pr 2 k - a := by omega
        rw [e3]
        constructor
        · intro z
          exact ⟨he2, (dn c pr 2 k - a) / 3, (dn c pr 2 k - a) % 3, by omega, z⟩
        · rintro ⟨_, t, r, z1, z2⟩
          obtain ⟨s, hs⟩ : ∃ s, r = (dn c pr 2 k - a) % 3 + 3 * s := ⟨r / 3, by omega⟩
          refine Vs_s s ?_
          rw [hs] at z2
          rw [show b + (dn c pr 2 k - a) % 3 + 3 * s = b + ((dn c pr 2 k - a) % 3 + 3 * s) by omega]
          exact z2
theorem rs_cong {R R' : Nat → Nat} : ∀ (n k a b : Nat), (∀ j, k ≤ j → j < k + n → R j = R' j) → rs R n k a b = rs R' n k a b
  | 0, _, _, _, _ => rfl
  | n + 1, k, a, b, h => by
    rw [rs, rs, h k (Nat.le_refl _) (by omega), rs_cong n (k + 1) _ _ (fun j h1 h2 => h j (by omega) (by omega))]
theorem Vs_of_rs {c t : Nat → Nat} : ∀ (n k a b : Nat), (∀ j, k ≤ j → j < k + n → 3 * t j ≤ c j) → rs (fun j => c j - 3 * t j) n k a b = true → Vs c n k a b
  | 0, _, a, _, _, h => by rw [rs] at h; show a = 0; exact of_decide_eq_true h
  | n + 1, k, a, b, ht, h => by
    by_cases he : (27 ≤ k ∨ k % 9 = 0) ∧ ¬ a = 0
    · rw [rs_edge he.1 he.2] at h; exact absurd h (by decide)
    · by_cases hl : c k - 3 * t k < a
      · rw [rs_lack (R := fun j => c j - 3 * t j) hl] at h; exact absurd h (by decide)
      · have he2 : (27 ≤ k ∨ k % 9 = 0) → a = 0 := fun z => Classical.byContradiction fun y => he ⟨z, y⟩
        rw [rs_go (R := fun j => c j - 3 * t j) he2 (by show a ≤ c k - 3 * t k; omega)] at h
        have h3 := ht k (Nat.le_refl _) (by omega)
        exact ⟨he2, t k, c k - 3 * t k - a, by omega, Vs_of_rs n (k + 1) _ _ (fun j h1 h2 => ht j (by omega) (by omega)) h⟩
theorem rs_of_Vs {c : Nat → Nat} : ∀ (n k a b : Nat), Vs c n k a b → ∃ t : Nat → Nat, (∀ j, 3 * t j ≤ c j) ∧ rs (fun j => c j - 3 * t j) n k a b = true
  | 0, k, a, b, h => ⟨fun _ => 0, fun _ => Nat.zero_le _, by rw [rs]; exact decide_eq_true (show a = 0 from h)⟩
  | n + 1, k, a, b, h => by
    obtain ⟨h1, t, r, h2, h3⟩ := h
    obtain ⟨u, hu, hr⟩ := rs_of_Vs n (k + 1) _ _ h3
    refine ⟨fun j => if j = k then t else u j, fun j => ?_, ?_⟩
    · show 3 * (if j = k then t else u j) ≤ c j
      split
      · rename_i e; rw [e]; omega
      · exact hu j
    · have ek : c k - 3 * (if k = k then t else u k) = a + r := by rw [if_pos rfl]; omega
      rw [rs_go h1 (by show a ≤ c k - 3 * (if k = k then t else u k); omega)]
      have e2 : c k - 3 * (if k = k then t else u k) - a = r := by omega
      show rs _ n (k + 1) (b + (c k - 3 * (if k = k then t else u k) - a)) (c k - 3 * (if k = k then t else u k) - a) = true
      rw [e2, ← hr]
      refine rs_cong n (k + 1) _ _ (fun j h4 h5 => ?_)
      show c j - 3 * (if j = k then t else u j) = c j - 3 * u j
      rw [if_neg (by omega)]
/-- the mask of a choice -/
def mo (c t : Nat → Nat) : Nat → Nat
  | 0 => 0
  | n + 1 => mo c t n + (if 3 ≤ c n then t n * 2 ^ tix c n else 0)
theorem mo_lt {c t : Nat → Nat} (ht : ∀ j, t j ≤ 1) : ∀ n, mo c t n < 2 ^ tix c n
  | 0 => by simp [mo, tix]
  | n + 1 => by
    have ih := mo_lt (c := c) ht n
    rw [mo, tix]
    by_cases h : 3 ≤ c n
    · rw [if_pos h, if_pos h, Nat.pow_succ]
      have := Nat.mul_le_mul_right (2 ^ tix c n) (ht n)
      omega
    · rw [if_neg h, if_neg h]; simpa using ih
theorem mo_bit {c t : Nat → Nat} (ht : ∀ j, t j ≤ 1) : ∀ {n k : Nat}, k < n → 3 ≤ c k → mo c t n / 2 ^ tix c k % 2 = t k
  | n + 1, k, h, hk => by
    rw [mo]
    rcases Nat.lt_or_eq_of_le (Nat.lt_succ_iff.mp h) with e | e
    · have ih := mo_bit ht e hk
      by_cases hn : 3 ≤ c n
      · rw [if_pos hn]
        have hlt : tix c k < tix c n := by
          have h1 := tix_mono c (show k + 1 ≤ n by omega)
          rw [tix, if_pos hk] at h1
          omega
        have e1 : t n * 2 ^ tix c n = t n * 2 ^ (tix c n - tix c k - 1) * 2 * 2 ^ tix c k := by
          have : (2 : Nat) ^ tix c n = 2 ^ (tix c n - tix c k - 1) * 2 * 2 ^ tix c k := by
            rw [← Nat.pow_succ, ← Nat.pow_add]
            congr 1
            omega
          rw [this, Nat.mul_assoc, Nat.mul_assoc, Nat.mul_assoc]
        rw [e1, Nat.add_mul_div_right _ _ (Nat.two_pow_pos _), Nat.add_mul_mod_self_right]
        exact ih
      · rw [if_neg hn]; exact ih
    · subst e
      rw [if_pos hk, Nat.add_mul_div_right _ _ (Nat.two_pow_pos _), Nat.div_eq_of_lt (mo_lt ht k), Nat.zero_add]
      have := ht k
      omega
theorem tm_mo {c t : Nat → Nat} (hc : ∀ j, c j < 6) (ht : ∀ j, 3 * t j ≤ c j) {k : Nat} (hk : k < 34) : tm c (mo c t 34) k = t k := by
  have ht1 : ∀ j, t j ≤ 1 := fun j => by have := ht j; have := hc j; omega
  unfold tm
  by_cases h : 3 ≤ c k
  · rw [mo_bit ht1 hk h]
    have := ht1 k
    split
    · rename_i z; omega
    · rename_i z
      have : ¬ t k = 1 := fun y => z ⟨h, y⟩
      omega
  · rw [if_neg (fun z => h z.1)]
    have := ht k
    omega
/-- some mask takes the tiles apart just where the greedy way does -/
theorem mask_iff {c : Nat → Nat} {pr : Nat} (h2 : 2 ≤ c pr) (hc : ∀ j, c j < 6) : (∃ mask, mask < 2 ^ tix (dn c pr 2) 34 ∧ rs (tr_ (dn c pr 2) mask) 34 0 0 0 = true) ↔ g_sets c pr 34 0 0 0 = true := by
  rw [g_iff h2]
  have hd : ∀ j, dn c pr 2 j < 6 := fun j => by have := hc j; unfold dn; split <;> omega
  constructor
  · rintro ⟨mask, _, h⟩
    exact Vs_of_rs (t := tm (dn c pr 2) mask) 34 0 0 0 (fun j _ _ => tm_3 _ _ j) h
  · intro h
    obtain ⟨t, ht, hr⟩ := rs_of_Vs 34 0 0 0 h
    refine ⟨mo (dn c pr 2) t 34, mo_lt (fun j => by have := ht j; have := hd j; omega) 34, ?_⟩
    rw [← hr]
    refine rs_cong 34 0 0 0 (fun j _ hj => ?_)
    show _ - 3 * _ = _
    rw [tm_mo hd ht (by omega)]
