/-! sets of kinds as masks -/
theorem pz_cmp0 (x y : Int64) : (lg_cmp x y = 0) = (x = y) := by
  refine propext ⟨fun h => ?_, fun h => ?_⟩
  · unfold lg_cmp at h
    split at h
    · exact absurd h (by decide)
    · split at h
      · assumption
      · exact absurd h (by decide)
  · subst h
    unfold lg_cmp
    rw [if_neg (by exact Int64.lt_irrefl), if_pos rfl]
def mk_ (f : Nat → Bool) : Nat → Nat
  | 0 => 0
  | n + 1 => mk_ f n + (if f n = true then 2 ^ n else 0)
theorem mk_lt (f : Nat → Bool) : ∀ n, mk_ f n < 2 ^ n
  | 0 => by simp [mk_]
  | n + 1 => by
    have := mk_lt f n
    rw [mk_, Nat.pow_succ]
    split <;> omega
theorem mk_inj {f g : Nat → Bool} : ∀ {n}, mk_ f n = mk_ g n ↔ ∀ k, k < n → f k = g k
  | 0 => by simp [mk_]
  | n + 1 => by
    have h1 := mk_lt f n
    have h2 := mk_lt g n
    have ih := mk_inj (f := f) (g := g) (n := n)
    constructor
    · intro h k hk
      rw [mk_, mk_] at h
      have hn : f n = g n ∧ mk_ f n = mk_ g n := by
        cases hf : f n <;> cases hg : g n <;> simp [hf, hg] at h ⊢ <;> omega
      rcases Nat.lt_or_eq_of_le (Nat.lt_succ_iff.mp hk) with q | q
      · exact ih.mp hn.2 k q
      · rw [q]; exact hn.1
    · intro h
      rw [mk_, mk_, ih.mpr (fun k hk => h k (Nat.lt_succ_of_lt hk)), h n (Nat.lt_succ_self n)]
theorem mk_bit {f : Nat → Bool} : ∀ {n k : Nat}, k < n → mk_ f n / 2 ^ k % 2 = if f k = true then 1 else 0
  | 0, k, h => by omega
  | n + 1, k, h => by
    rw [mk_]
    rcases Nat.lt_or_eq_of_le (Nat.lt_succ_iff.mp h) with q | q
    · have ih := mk_bit (f := f) q
      have e : ∀ x, (mk_ f n + (if x = true then 2 ^ n else 0)) / 2 ^ k % 2 = mk_ f n / 2 ^ k % 2 := by
        intro x
        cases x with
        | false => simp
        | true =>
          have e1 : (2 : Nat) ^ n = 2 ^ (n - k - 1) * 2 * 2 ^ k := by
            rw [← Nat.pow_succ, ← Nat.pow_add]
            congr 1
            omega
          rw [if_pos rfl, e1, Nat.add_mul_div_right _ _ (Nat.two_pow_pos k), Nat.add_mul_mod_self_right]
      rw [e, ih]
    · subst q
      have h1 := mk_lt f k
      cases hf : f k with
      | false => simp [Nat.div_eq_of_lt h1]
      | true =>
        rw [if_pos rfl, if_pos rfl, Nat.add_div_right _ (Nat.two_pow_pos k), Nat.div_eq_of_lt h1]
/-- a bit more -/
theorem mk_or {f : Nat → Bool} {n : Nat} (hn : n < 62) (hf : f n = true) : lN (mk_ f n) ||| ((1 : Int64) <<< ((nI n).toInt64 &&& 63)) = lN (mk_ f (n + 1)) := by
  have h1 := mk_lt f n
  have hp : 2 ^ (n + 1) ≤ 2 ^ 62 := Nat.pow_le_pow_right (by decide) (by omega)
  rw [Nat.pow_succ] at hp
  have e1 : (1 : Int64) <<< ((nI n).toInt64 &&& 63) = lN (1 * 2 ^ n) := wb_shl 1 (by omega)
  rw [e1, mk_, if_pos hf, g_or' rfl h1 (by omega), Nat.one_mul]
/-! seven pairs, orphans -/
def n2_ (c : Nat → Nat) : Nat → Nat
  | 0 => 0
  | n + 1 => n2_ c n + (if c n = 2 then 1 else 0)
theorem n2_le (c : Nat → Nat) : ∀ n, n2_ c n ≤ n
  | 0 => Nat.le_refl _
  | n + 1 => by have := n2_le c n; rw [n2_]; split <;> omega
theorem w_Shape_isSevenPairs {q : Nat} {m : zm} {c : Nat → Nat} {K : Int32 → zm → Prop} (hc : pA m q c) (hK : K (if n2_ c 34 = 7 then 1 else 0) m) : j_Shape_isSevenPairs q m K := by
  have key : ∀ (n k : Nat), k + n = 34 → j_Shape_isSevenPairs_L4 q K (n + 1) (nI (n2_ c k)) (nI k) m := by
    intro n
    induction n with
    | zero =>
      intro k hk
      have hk : k = 34 := by omega
      subst hk
      have hle := n2_le c 34
      rw [j_Shape_isSevenPairs_L4]
      refine ⟨fun _ => ⟨fun h => ?_, fun h => ?_⟩, fun h => absurd (by decide) h⟩
      · have h : ¬ n2_ c 34 = 7 := fun e => h (by rw [e]; rfl)
        rw [if_neg h] at hK
        exact ⟨Or.inl rfl, hK⟩
      · have h : n2_ c 34 = 7 := (nI_eq (b := 7) (by omega) (by omega)).mp h
        rw [if_pos h] at hK
        exact ⟨Or.inr rfl, hK⟩
    | succ n ih =>
      intro k hk
      have hk34 : k < 34 := by omega
      obtain ⟨hck, hcb⟩ := hc k hk34
      have hle := n2_le c k
      have ih1 := ih (k + 1) (by omega)
      rw [j_Shape_isSevenPairs_L4]
      refine ⟨fun h => ?_, fun _ => ⟨pz_in hk34 (by omega), fun h => ?_, fun h => ?_⟩⟩
      · have h : 34 ≤ k := (nI_leI (a := 34) (by omega) (by omega)).mp h
        omega
      · rw [nI_clamp (by omega), hck] at h
        have h : ¬ c k = 2 := fun e => h (by rw [e]; rfl)
        rw [n2_, if_neg h] at ih1
        intro y hy
        rw [hy, nI_1]
        exact ih1
      · rw [nI_clamp (by omega), hck] at h
        have h : c k = 2 := (nI_eq (b := 2) (by omega) (by omega)).mp h
        rw [n2_, if_pos h] at ih1
        intro y hy y2 hy2
        rw [hy, hy2, nI_1, nI_1]
        exact ih1
  exact ⟨35, key 34 0 rfl⟩
def out_ (k : Nat) : Bool := decide (27 ≤ k) || k % 9 == 0 || k % 9 == 8
theorem out_mask : mk_ out_ 34 = 17113154305 := by decide +kernel
theorem w_Shape_isOrphans {q : Nat} {m : zm} {c : Nat → Nat} {K : Int32 → zm → Prop} (hc : pA m q c) (hT : (∀ k, k < 34 → (decide (0 < c k)) = out_ k) → K 1 m) (hF : (¬ ∀ k, k < 34 → (decide (0 < c k)) = out_ k) → K 0 m) : j_Shape_isOrphans q m K := by
  have key : ∀ (n k : Nat), k + n = 34 → j_Shape_isOrphans_L4 q K (n + 1) (lN (mk_ (fun k => decide (0 < c k)) k)) (nI k) m := by
    intro n
    induction n with
    | zero =>
      intro k hk
      have hk : k = 34 := by omega
      subst hk
      have hlt := mk_lt (fun k => decide (0 < c k)) 34
      have he : (lN (mk_ (fun k => decide (0 < c k)) 34) = 17113154305) = (∀ k, k < 34 → (decide (0 < c k)) = out_ k) := by
        refine propext (Iff.trans ?_ mk_inj)
        rw [out_mask]
        exact pk_lEQ (by omega) (by decide)
      rw [j_Shape_isOrphans_L4, pz_cmp0, he]
      refine ⟨fun _ => ⟨fun h => ?_, fun h => ?_⟩, fun h => absurd (by decide) h⟩
      · exact ⟨Or.inl rfl, hF h⟩
      · exact ⟨Or.inr rfl, hT h⟩
    | succ n ih =>
      intro k hk
      have hk34 : k < 34 := by omega
      obtain ⟨hck, hcb⟩ := hc k hk34
      have ih1 := ih (k + 1) (by omega)
      rw [j_Shape_isOrphans_L4]
      refine ⟨fun h => ?_, fun _ => ⟨pz_in hk34 (by omega), fun h => ?_, fun h => ?_⟩⟩
      · have h : 34 ≤ k := (nI_leI (a := 34) (by omega) (by omega)).mp h
        omega
      · rw [nI_clamp (by omega), hck] at h
        have h : c k ≤ 0 := (nI_leI (b := 0) (by omega) (by omega)).mp h
        rw [mk_, if_neg (by simp; omega)] at ih1
        intro y hy
        rw [hy, nI_1]
        exact ih1
      · rw [nI_clamp (by omega), hck] at h
        have h : ¬ c k ≤ 0 := fun e => h ((nI_leI (b := 0) (by omega) (by omega)).mpr e)
        intro y hy y2 hy2
        rw [hy, hy2, nI_1, mk_or (by omega) (by simp; omega)]
        exact ih1
  exact ⟨35, key 34 0 rfl⟩
/-- the tiles are complete beside that many melds -/
def cmp_ (c : Nat → Nat) (w : Nat) : Prop := (w = 0 ∧ (n2_ c 34 = 7 ∨ ∀ k, k < 34 → (decide (0 < c k)) = out_ k)) ∨ ∃ p, p < 34 ∧ 2 ≤ c p ∧ g_sets c p 34 0 0 0 = true
theorem w_Shape_isComplete {q w : Nat} {m : zm} {c : Nat → Nat} {K : Int32 → zm → Prop} (hw : w < 1000) (hc : pA m q c) (hT : cmp_ c w → K 1 m) (hF : ¬ cmp_ c w → K 0 m) : j_Shape_isComplete q (nI w) m K := by
  have key : ∀ (n k : Nat), k + n = 34 → ((¬ ∃ p, p < k ∧ 2 ≤ c p ∧ g_sets c p 34 0 0 0 = true) → (¬ (w = 0 ∧ (n2_ c 34 = 7 ∨ ∀ k, k < 34 → (decide (0 < c k)) = out_ k))) → j_Shape_isComplete_L22 q (nI w) K (n + 1) (nI k) m) := by
    intro n
    induction n with
    | zero =>
      intro k hk hno hsp
      have hk : k = 34 := by omega
      subst hk
      rw [j_Shape_isComplete_L22]
      exact ⟨fun _ => hF (fun h => h.elim hsp hno), fun h => absurd (by decide) h⟩
    | succ n ih =>
      intro k hk hno hsp
      have hk34 : k < 34 := by omega
      obtain ⟨hck, hcb⟩ := hc k hk34
      have go : (¬ (2 ≤ c k ∧ g_sets c k 34 0 0 0 = true)) → j_Shape_isComplete_L45 q (nI w) (j_Shape_isComplete_L22 q (nI w) K (n + 1)) K (nI k) m := by
        intro h y hy
        rw [hy, nI_1]
        refine ih (k + 1) (by omega) (fun ⟨p, h1, h2⟩ => ?_) hsp
        rcases Nat.lt_or_eq_of_le (Nat.lt_succ_iff.mp h1) with e | e
        · exact hno ⟨p, e, h2⟩
        · subst e; exact h h2
      rw [j_Shape_isComplete_L22]
      refine ⟨fun h => ?_, fun _ => ⟨pz_in hk34 (by omega), fun h => ?_, fun h => ?_⟩⟩
      · have h : 34 ≤ k := (nI_leI (a := 34) (by omega) (by omega)).mp h
        omega
      · rw [nI_clamp (by omega), hck] at h
        have h : c k < 2 := (nI_ltI (b := 2) (by omega) (by omega)).mp h
        exact go (fun e => by omega)
      · rw [nI_clamp (by omega), hck] at h
        have h : 2 ≤ c k := Nat.le_of_not_lt fun e => h ((nI_ltI (b := 2) (by omega) (by omega)).mpr e)
        refine w_Shape_isSetsBut hc hk34 ?_
        cases hg : g_sets c k 34 0 0 0 with
        | true => exact ⟨fun e => absurd e (by decide), fun _ => hT (Or.inr ⟨k, hk34, h, hg⟩)⟩
        | false => exact ⟨fun _ => go (fun e => by rw [hg] at e; exact absurd e.2 (by decide)), fun e => absurd rfl e⟩
  have rest : (¬ (w = 0 ∧ (n2_ c 34 = 7 ∨ ∀ k, k < 34 → (decide (0 < c k)) = out_ k))) → j_Shape_isComplete_L20 q (nI w) K m := fun h => ⟨35, key 34 0 rfl (fun ⟨p, h1, _⟩ => by omega) h⟩
  refine ⟨fun h => ?_, fun h => ?_⟩
  · have h : ¬ w = 0 := fun e => h (by rw [e]; rfl)
    exact rest (fun e => h e.1)
  · rw [pz_0 (by omega)] at h
    refine w_Shape_isSevenPairs hc ?_
    by_cases h7 : n2_ c 34 = 7
    · rw [if_pos h7]
      exact ⟨fun _ => hT (Or.inl ⟨h, Or.inl h7⟩), fun e => absurd e (by decide)⟩
    · rw [if_neg h7]
      refine ⟨fun e => absurd rfl e, fun _ => w_Shape_isOrphans hc (fun ho => ?_) (fun ho => ?_)⟩
      · exact ⟨fun e => absurd e (by decide), fun _ => hT (Or.inl ⟨h, Or.inr ho⟩)⟩
      · exact ⟨fun _ => rest (fun e => e.2.elim h7 ho), fun e => absurd rfl e⟩
