/-! triplets by a mask: the bits are numbered over the kinds that have three left beside the pair -/
def tix (c : Nat → Nat) : Nat → Nat
  | 0 => 0
  | n + 1 => tix c n + (if 3 ≤ c n then 1 else 0)
def tm (c : Nat → Nat) (mask k : Nat) : Nat := if 3 ≤ c k ∧ mask / 2 ^ tix c k % 2 = 1 then 1 else 0
def tl (c : Nat → Nat) (mask : Nat) : Nat → List (Nat × Nat)
  | 0 => []
  | n + 1 => tl c mask n ++ (if tm c mask n = 1 then [(1, n)] else [])
def tr_ (c : Nat → Nat) (mask k : Nat) : Nat := c k - 3 * tm c mask k
theorem tm_le (c : Nat → Nat) (mask k : Nat) : tm c mask k ≤ 1 := by unfold tm; split <;> omega
theorem tm_3 (c : Nat → Nat) (mask k : Nat) : 3 * tm c mask k ≤ c k := by unfold tm; split <;> omega
theorem tix_le (c : Nat → Nat) : ∀ n, tix c n ≤ n
  | 0 => Nat.le_refl _
  | n + 1 => by have := tix_le c n; rw [tix]; split <;> omega
theorem tix_3 (c : Nat → Nat) : ∀ n, 3 * tix c n ≤ csum c n
  | 0 => Nat.le_refl _
  | n + 1 => by have := tix_3 c n; rw [tix, csum]; split <;> omega
theorem tix_mono (c : Nat → Nat) : ∀ {n m : Nat}, n ≤ m → tix c n ≤ tix c m
  | n, 0, h => by rw [Nat.le_zero.mp h]; exact Nat.le_refl _
  | n, m + 1, h => by
    rcases Nat.lt_or_eq_of_le h with e | e
    · have := tix_mono c (Nat.lt_succ_iff.mp e); rw [tix]; omega
    · rw [e]; exact Nat.le_refl _
theorem tl_len (c : Nat → Nat) (mask : Nat) : ∀ n, (tl c mask n).length ≤ tix c n
  | 0 => Nat.le_refl _
  | n + 1 => by
    have := tl_len c mask n
    rw [tl, tix, List.length_append]
    by_cases h : 3 ≤ c n
    · rw [if_pos h]; split <;> simp <;> omega
    · have e : tm c mask n = 0 := by unfold tm; rw [if_neg (fun z => h z.1)]
      rw [if_neg h, e]; simp; omega
theorem tl_sum (c : Nat → Nat) (mask : Nat) : ∀ n, 3 * (tl c mask n).length + csum (tr_ c mask) n = csum c n
  | 0 => rfl
  | n + 1 => by
    have ih := tl_sum c mask n
    have h3 := tm_3 c mask n
    have h1 := tm_le c mask n
    rw [tl, csum, csum, List.length_append]
    have e : tr_ c mask n = c n - 3 * tm c mask n := rfl
    rw [e]
    by_cases h : tm c mask n = 1
    · rw [if_pos h]; simp only [List.length_cons, List.length_nil]; omega
    · rw [if_neg h]; simp only [List.length_nil]; omega
theorem pz_s31 : ∀ n, n < 32 → ((nI n &&& 31).toBitVec.smod 32).toNat = n := by decide +kernel
theorem pz_bit {mask i : Nat} (hm : mask < 2 ^ 31) (hi : i < 32) : ((nI mask >>> (nI i &&& 31)) &&& 1 = 1) = (mask / 2 ^ i % 2 = 1) := by
  rw [pk_shrN hm _ i (pz_s31 i hi)]
  have h1 : mask / 2 ^ i < 2 ^ 31 := Nat.lt_of_le_of_lt (Nat.div_le_self _ _) hm
  rw [pk_andN (by omega) 1 rfl]
  exact pz_eq (b := 1) (by omega) (by omega)
theorem pz_pow {i : Nat} (hi : i < 30) : (1 : Int32) <<< (nI i &&& 31) = nI (2 ^ i) := by
  have h : 2 ^ i ≤ 2 ^ 30 := Nat.pow_le_pow_right (by decide) (by omega)
  have := pk_shlN (n := 1) (nI i &&& 31) i (pz_s31 i (by omega)) (by omega)
  rw [Nat.one_mul] at this
  exact this
theorem dn_2 {e : Nat → Nat} {pr k : Nat} (h2 : 2 ≤ e pr) : ∀ t, (if k = pr then 2 else 0) = t → nI (e k) - nI t = nI (dn e pr 2 k) := by
  intro t ht
  unfold dn
  by_cases h : k = pr
  · subst h
    rw [if_pos rfl] at ht
    subst ht
    rw [if_pos rfl]
    exact pk_sub h2
  · rw [if_neg h] at ht
    subst ht
    rw [if_neg h]
    exact pk_sub (Nat.zero_le _)
theorem w_Model_threes {pr : Nat} {m : zm} {e : Nat → Nat} {K : Int32 → zm → Prop} (he : pA m 50 e) (hp : m.1 33 44 = nI pr) (hpr : pr < 34) (h2 : 2 ≤ e pr) (hK : K (nI (tix (dn e pr 2) 34)) m) : j_Model_threes m K := by
  have key : ∀ (n k : Nat), k + n = 34 → j_Model_threes_L4 K (n + 1) (nI (tix (dn e pr 2) k)) (nI k) m := by
    intro n
    induction n with
    | zero =>
      intro k hk
      have hk : k = 34 := by omega
      subst hk
      rw [j_Model_threes_L4]
      exact ⟨fun _ => hK, fun h => absurd (by decide) h⟩
    | succ n ih =>
      intro k hk
      have hk34 : k < 34 := by omega
      obtain ⟨hck, hcb⟩ := he k hk34
      have ih1 := ih (k + 1) (by omega)
      have hdn : dn e pr 2 k ≤ e k := by unfold dn; split <;> omega
      have step : ∀ t, (if k = pr then 2 else 0) = t → j_Model_threes_L29 (j_Model_threes_L4 K (n + 1)) K (nI (tix (dn e pr 2) k)) (nI k) (nI t) (m.1 50 (Int32.toNatClampNeg (nI k))) m := by
        intro t ht
        rw [j_Model_threes_L29, nI_clamp (by omega), hck, dn_2 h2 t ht]
        refine ⟨fun h y hy => ?_, fun h y hy => ?_⟩
        · have h : dn e pr 2 k < 3 := (nI_ltI (b := 3) (by omega) (by omega)).mp h
          rw [tix, if_neg (by omega)] at ih1
          rw [hy, nI_1]; exact ih1
        · have h : ¬ dn e pr 2 k < 3 := fun z => h ((nI_ltI (b := 3) (by omega) (by omega)).mpr z)
          rw [tix, if_pos (by omega)] at ih1
          rw [hy, nI_1, nI_1]; exact ih1
      rw [j_Model_threes_L4, hp]
      refine ⟨fun h => ?_, fun _ => ⟨pz_in hk34 (by omega), fun h => ?_, fun h => ?_⟩⟩
      · have h : 34 ≤ k := (nI_leI (a := 34) (by omega) (by omega)).mp h
        omega
      · rw [pz_eq (by omega) (by omega)] at h
        exact step 0 (if_neg h)
      · rw [pz_eq (by omega) (by omega)] at h
        exact step 2 (if_pos h)
  exact ⟨35, key 34 0 rfl⟩
theorem csum_mono {c : Nat → Nat} : ∀ {n m : Nat}, n ≤ m → csum c n ≤ csum c m
  | n, 0, h => by rw [Nat.le_zero.mp h]; exact Nat.le_refl _
  | n, m + 1, h => by
    rcases Nat.lt_or_eq_of_le h with e | e
    · have := csum_mono (c := c) (Nat.lt_succ_iff.mp e); rw [csum]; omega
    · rw [e]; exact Nat.le_refl _
theorem w_Model_apart {pr mask wd : Nat} {m : zm} {e : Nat → Nat} {K : Int32 → zm → Prop} (he : pA m 50 e) (hp : m.1 33 44 = nI pr) (hpr : pr < 34) (h2 : 2 ≤ e pr) (hm : mask < 2 ^ 31) (hwd : wd ≤ 4) (hsum : csum e 34 = 3 * wd + 2)
    (hT : rs (tr_ (dn e pr 2) mask) 34 0 0 0 = true → ∀ m', eqA m m' → setsOk m' (tl (dn e pr 2) mask 34 ++ rl (tr_ (dn e pr 2) mask) 34 0 0 0) → m'.1 33 40 = nI wd → K 1 m') (hF : rs (tr_ (dn e pr 2) mask) 34 0 0 0 = false → ∀ m', eqA m m' → K 0 m') : j_Model_apart (nI mask) (nI wd) m K := by
  intro m1 h1
  have hdsum : csum (dn e pr 2) 34 = 3 * wd := by
    have := csum_dn (R := e) (k := pr) (r := 2) h2 34
    rw [if_pos hpr] at this
    omega
  have key : ∀ (n k : Nat) (m' : zm), k + n = 34 → eqA m m' → (∀ j, j < k → m'.1 52 j = nI (tr_ (dn e pr 2) mask j)) → setsOk m' (tl (dn e pr 2) mask k) → j_Model_apart_L10 (nI mask) (nI wd) K (n + 1) (nI (tix (dn e pr 2) k)) (nI k) m' := by
    intro n
    induction n with
    | zero =>
      intro k m' hk am hw hs
      have hk : k = 34 := by omega
      subst hk
      rw [j_Model_apart_L10]
      refine ⟨fun _ => ⟨35, ?_⟩, fun h => absurd (by decide) h⟩
      have hcur : pA m' 52 (tr_ (dn e pr 2) mask) := fun j hj => ⟨hw j hj, by
        have := (he j hj).2
        have h3 : dn e pr 2 j ≤ e j := by unfold dn; split <;> omega
        show dn e pr 2 j - _ < 2000
        omega⟩
      refine w_apart_rest hwd (tr_ (dn e pr 2) mask) 34 0 0 0 m' (tr_ (dn e pr 2) mask) (tl (dn e pr 2) mask 34) rfl hcur hs ?_ (fun j hj => by omega) (fun _ => ⟨rfl, Nat.zero_le _⟩) (fun _ => ⟨rfl, Nat.zero_le _⟩) (fun _ _ _ => rfl) (fun z => absurd rfl z) (fun z => absurd rfl z) (fun hr m2 a2 s2 o2 => hT hr m2 (am.trans a2) s2 o2) (fun hr m2 a2 => hF hr m2 (am.trans a2))
      rw [tl_sum, hdsum]
    | succ n ih =>
      intro k m' hk am hw hs
      have hk34 : k < 34 := by omega
      obtain ⟨hck, hcb⟩ := he k hk34
      have hdn : dn e pr 2 k ≤ e k := by unfold dn; split <;> omega
      have hck' : m'.1 50 k = nI (e k) := by
        rw [(am 50 k (by rintro (z | z) <;> omega)).1]; exact hck
      have hp' : m'.1 33 44 = nI pr := by
        rw [(am 33 44 (by rintro (z | z) <;> omega)).1]; exact hp
      have hix := tix_le (dn e pr 2) k
      have hlen := tl_len (dn e pr 2) mask k
      have step : ∀ t, (if k = pr then 2 else 0) = t → j_Model_apart_L44 (nI mask) (nI wd) (j_Model_apart_L10 (nI mask) (nI wd) K (n + 1)) K (nI (tix (dn e pr 2) k)) (nI k) (nI t) (m'.1 50 (Int32.toNatClampNeg (nI k))) (nI k) m' := by
        intro t ht
        refine ⟨pz_in hk34 (by omega), fun m2 e2 => ⟨pz_in hk34 (by omega), ?_⟩⟩
        rw [nI_clamp (by omega), hck', dn_2 h2 t ht] at e2
        have c2 : m2.1 52 k = nI (dn e pr 2 k) := by rw [e2, pz_rI, if_pos ⟨rfl, rfl⟩]
        have s2 : setsOk m2 (tl (dn e pr 2) mask k) := by rw [e2]; exact hs.keep52
        have a2 : eqA m m2 := by rw [e2]; exact am.w (Or.inl ⟨by omega, by omega⟩) _
        have w2 : ∀ j, j < k → m2.1 52 j = nI (tr_ (dn e pr 2) mask j) := fun j hj => by
          rw [e2, pz_rI, if_neg (by omega)]; exact hw j hj
        rw [nI_clamp (by omega), c2, s2.1]
        refine ⟨fun h y hy => ?_, fun h => ?_⟩
        · have h : dn e pr 2 k < 3 := (nI_ltI (b := 3) (by omega) (by omega)).mp h
          have t0 : tm (dn e pr 2) mask k = 0 := by unfold tm; rw [if_neg (by omega)]
          rw [hy, nI_1]
          have ih1 := ih (k + 1) m2 (by omega) a2
          rw [tix, if_neg (by omega)] at ih1
          refine ih1 (fun j hj => ?_) ?_
          · rcases Nat.lt_or_eq_of_le (Nat.lt_succ_iff.mp hj) with z | z
            · exact w2 j z
            · subst z; rw [c2]; unfold tr_; rw [t0]; rfl
          · rw [tl, t0]; simpa using s2
        · have h : 3 ≤ dn e pr 2 k := Nat.le_of_not_lt fun z => h ((nI_ltI (b := 3) (by omega) (by omega)).mpr z)
          have hix2 : tix (dn e pr 2) (k + 1) = tix (dn e pr 2) k + 1 := by rw [tix, if_pos h]
          have hb3 := tix_3 (dn e pr 2) (k + 1)
          have hb4 := csum_mono (c := dn e pr 2) (n := k + 1) (m := 34) (by omega)
          have hl4 : (tl (dn e pr 2) mask k).length < 4 := by omega
          have nx : ∀ m3, eqA m m3 → (∀ j, j < k + 1 → m3.1 52 j = nI (tr_ (dn e pr 2) mask j)) → setsOk m3 (tl (dn e pr 2) mask (k + 1)) → j_Model_apart_L92 (nI mask) (nI wd) (j_Model_apart_L10 (nI mask) (nI wd) K (n + 1)) K (nI (tix (dn e pr 2) k)) (nI k) m3 := by
            intro m3 a3 w3 s3 y hy y2 hy2
            rw [hy, hy2, nI_1, nI_1, ← hix2]
            exact ih (k + 1) m3 (by omega) a3 w3 s3
          rw [pz_bit hm (by omega)]
          refine ⟨fun hb => ?_, fun hb => ⟨fun h4 => ?_, fun _ => ⟨pz_in hk34 (by omega), pz_in hk34 (by omega), fun m3 e3 => ?_⟩⟩⟩
          · have t0 : tm (dn e pr 2) mask k = 0 := by unfold tm; rw [if_neg (fun z => hb z.2)]
            refine nx m2 a2 (fun j hj => ?_) (by rw [tl, t0]; simpa using s2)
            rcases Nat.lt_or_eq_of_le (Nat.lt_succ_iff.mp hj) with z | z
            · exact w2 j z
            · subst z; rw [c2]; unfold tr_; rw [t0]; rfl
          · have h4 : 4 ≤ (tl (dn e pr 2) mask k).length := (nI_leI (a := 4) (by omega) (by omega)).mp h4
            omega
          · have t1 : tm (dn e pr 2) mask k = 1 := by unfold tm; rw [if_pos ⟨h, hb⟩]
            have d3 : nI (dn e pr 2 k) - 3 = nI (dn e pr 2 k - 3) := pk_sub (b := 3) h
            rw [d3] at e3
            have s3 : setsOk m3 (tl (dn e pr 2) mask k) := by rw [e3]; exact s2.keep52
            refine w_Model_add (a := 1) s3 (by omega) (fun m4 a4 f4 s4 => nx m4 ?_ (fun j hj => ?_) (by rw [tl, t1]; exact s4))
            · refine (a2.trans ?_).trans a4
              rw [e3]; exact eqA.rf.w (Or.inl ⟨by omega, by omega⟩) _
            · rw [f4 j, e3, pz_rI]
              rcases Nat.lt_or_eq_of_le (Nat.lt_succ_iff.mp hj) with z | z
              · rw [if_neg (by omega)]; exact w2 j z
              · subst z
                rw [if_pos ⟨rfl, rfl⟩]
                unfold tr_; rw [t1]
      rw [j_Model_apart_L10, hp']
      refine ⟨fun h => ?_, fun _ => ⟨pz_in hk34 (by omega), fun h => ?_, fun h => ?_⟩⟩
      · have h : 34 ≤ k := (nI_leI (a := 34) (by omega) (by omega)).mp h
        omega
      · rw [pz_eq (by omega) (by omega)] at h
        exact step 0 (if_neg h)
      · rw [pz_eq (by omega) (by omega)] at h
        exact step 2 (if_pos h)
  refine ⟨35, key 34 0 m1 rfl ?_ (fun j hj => by omega) ?_⟩
  · rw [h1]; exact eqA.rf.w (Or.inr ⟨rfl, Or.inl rfl⟩) _
  · exact ⟨by rw [h1, pz_rI, if_pos ⟨rfl, rfl⟩]; rfl, fun i x hx => by simp [tl] at hx⟩
