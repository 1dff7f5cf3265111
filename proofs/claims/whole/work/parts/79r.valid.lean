/-! THE SETS OF A WAY -/
theorem clw_m {R t : Nat → Nat} {x : Nat} : ∀ n k a b, x ∈ clw R t n k a b → ∃ j, k ≤ j ∧ j < k + n ∧ (x = 4 * j ∨ x = 4 * j + 1)
  | 0, _, _, _, h => by cases h
  | n + 1, k, a, b, h => by
    rw [clw] at h
    rcases List.mem_append.mp h with h | h
    · exact ⟨k, by omega, by omega, Or.inr (List.eq_of_mem_replicate h)⟩
    · rcases List.mem_append.mp h with h | h
      · exact ⟨k, by omega, by omega, Or.inl (List.eq_of_mem_replicate h)⟩
      · obtain ⟨j, h1, h2, h3⟩ := clw_m n (k + 1) _ _ h
        exact ⟨j, by omega, by omega, h3⟩
theorem clw_r {R t : Nat → Nat} {x : Nat} : ∀ n k a b, k + n = 34 → rs R n k a b = true → x ∈ clw R t n k a b → x % 4 = 0 → x / 4 < 27 ∧ x / 4 % 9 ≤ 6
  | 0, _, _, _, _, _, h, _ => by cases h
  | n + 1, k, a, b, hk, hr, h, h4 => by
    have i1 : (27 ≤ k ∨ k % 9 = 0) → a = 0 := fun z => Classical.byContradiction (fun y => by rw [rs_edge z y] at hr; cases hr)
    have i2 : a ≤ R k := Classical.byContradiction (fun y => by rw [rs_lack (by omega)] at hr; cases hr)
    rw [clw] at h
    rcases List.mem_append.mp h with h | h
    · have := List.eq_of_mem_replicate h
      omega
    · rcases List.mem_append.mp h with h | h
      · have e := List.eq_of_mem_replicate h
        have hne : ¬ R k - a = 0 := fun z => by rw [z] at h; cases h
        have : ¬ (27 ≤ k ∨ 7 ≤ k % 9) := fun z => by rw [rs_late hk i1 i2 hne z] at hr; cases hr
        rw [e, show 4 * k / 4 = k by omega]
        omega
      · rw [rs_go i1 i2] at hr
        exact clw_r n (k + 1) _ _ (by omega) hr h h4
def tP (K : Nat) : Nat × Nat → Bool := fun x => !(x.1 == 0) && x.2 == K
theorem tlt_n {t : Nat → Nat} (ht : ∀ j, t j ≤ 1) (K : Nat) : ∀ n, (tlt t n).countP (tP K) = if K < n then t K else 0
  | 0 => rfl
  | n + 1 => by
    rw [tlt, List.countP_append, tlt_n ht K n]
    have h1 := ht n
    have e1 : (if t n = 1 then [(1, n)] else []).countP (tP K) = if n = K then t n else 0 := by
      by_cases q : t n = 1
      · rw [if_pos q, List.countP_singleton, q]
        by_cases q2 : n = K
        · rw [if_pos q2, q2, if_pos (by unfold tP; simp)]
        · rw [if_neg q2, if_neg (by unfold tP; simp [q2])]
      · rw [if_neg q]
        split
        · show 0 = t n
          omega
        · rfl
    rw [e1]
    by_cases q : n = K
    · subst q
      rw [if_pos rfl, if_neg (by omega), if_pos (by omega)]; omega
    · rw [if_neg q]
      by_cases q2 : K < n
      · rw [if_pos q2, if_pos (by omega)]; rfl
      · rw [if_neg q2, if_neg (by omega)]
theorem rl_n {R : Nat → Nat} (K : Nat) : ∀ n k a b, (rl R n k a b).countP (tP K) = 0
  | 0, _, _, _ => rfl
  | n + 1, k, a, b => by
    rw [rl, List.countP_append, rl_n K n]
    refine List.countP_eq_zero.mpr (fun x hx => ?_)
    rw [List.eq_of_mem_replicate hx]
    exact fun z => by cases z
theorem mg_n (d : Nat → Nat) (K : Nat) : ∀ n, 3 * ntri (mg_ d n) K ≤ msum d K n
  | 0 => Nat.le_refl _
  | n + 1 => by
    have ih := mg_n d K n
    unfold ntri at ih ⊢
    rw [mg_, msum, List.countP_append]
    by_cases q : ¬ d n % 4 = 0 ∧ d n / 4 = K
    · have : 3 ≤ cin_ (d n) K := by
        unfold cin_
        rw [if_neg q.1, if_pos q.2.symm]
        split <;> omega
      have one : ∀ (P : Nat × Nat × Bool → Bool) x, [x].countP P ≤ 1 := fun P x => List.countP_le_length
      have := one (fun x => !(x.1 == 0) && x.2.1 == K) (if d n % 4 = 0 then 0 else if d n % 4 = 1 then 1 else 2, d n / 4, decide (d n % 4 = 3))
      omega
    · rw [List.countP_singleton, if_neg ?_]
      · omega
      · intro z
        refine q ?_
        simp only [Bool.and_eq_true, Bool.not_eq_true', beq_iff_eq] at z
        refine ⟨fun y => ?_, z.2⟩
        rw [if_pos y] at z
        exact absurd z.1 (by decide)
theorem cn_u {N : Nat → Nat} {f : Nat → Prop} (hs : ∀ i, f i → N (i + 1) = N i + 1) (hm : ∀ i, N i ≤ N (i + 1)) {n : Nat} (h : N n ≤ 1) {i j : Nat} (hi : i < n) (hj : j < n) (fi : f i) (fj : f j) : i = j := by
  have mono : ∀ c a, N a ≤ N (a + c) := by
    intro c
    induction c with
    | zero => intro a; exact Nat.le_refl _
    | succ c ih => intro a; exact Nat.le_trans (ih a) (hm _)
  have lt : ∀ i j, i < j → j < n → f i → f j → False := by
    intro i j h1 h2 f1 f2
    have a1 := hs i f1
    have a2 := hs j f2
    have a3 := mono (j - (i + 1)) (i + 1)
    have a4 := mono (n - (j + 1)) (j + 1)
    rw [show i + 1 + (j - (i + 1)) = j by omega] at a3
    rw [show j + 1 + (n - (j + 1)) = n by omega] at a4
    omega
  rcases Nat.lt_trichotomy i j with e | e | e
  · exact absurd (lt i j e hj fi fj) id
  · exact e
  · exact absurd (lt j i e hi fj fi) id
/-- the sets of a way are valid -/
theorem Wj.v {S : zS} {p : Nat} {sd : Bool} (W : Wj S p sd) {q : Nat} {O : List Nat} (hx : (q, O) ∈ tA (ec S p sd) 34 0 0 0 none []) (hO : S.1 2 p + O.length = 4) : Sv (sQ (mf S p) (S.1 2 p) O) ∧ (∀ i, i < 4 → sQ (mf S p) (S.1 2 p) O i < 136) ∧ q < 34 := by
  have he := W.e4
  have ha := W.a4
  obtain ⟨B, M, _⟩ := W
  obtain ⟨t, wt, eO⟩ := (tA_mem he).mp hx
  have ht := way_1 he wt
  have hP := clw_ow (e := ec S p sd) (p := q) ht
  rw [← eO] at hP
  have inO : ∀ i, i < 4 → ¬ i < S.1 2 p → sQ (mf S p) (S.1 2 p) O i ∈ O := fun i hi h2 => by
    have e1 : sQ (mf S p) (S.1 2 p) O i = O.getD (i - S.1 2 p) 0 := if_neg h2
    rw [e1, List.getD_eq_getElem?_getD, List.getElem?_eq_getElem (show i - S.1 2 p < O.length by omega)]
    exact List.getElem_mem _
  refine ⟨⟨fun i hi h4 => ?_, fun i j hi hj f1 f2 f3 => ?_⟩, fun i hi => ?_, wt.1⟩
  · by_cases h2 : i < S.1 2 p
    · rw [sQ_d h2] at h4 ⊢
      exact (mf_ok B M p i).2 h4
    · have hm := inO i hi h2
      rw [eO] at hm
      rw [eO] at h4 ⊢
      exact clw_r 34 0 0 0 rfl wt.2.2.2 hm h4
  · have hN : ntri (lst (xs_ (sQ (mf S p) (S.1 2 p) O) (S.1 2 p) true 4) 4) (sQ (mf S p) (S.1 2 p) O i / 4) ≤ 1 := by
      generalize sQ (mf S p) (S.1 2 p) O i / 4 = K
      rw [lst_tg hO (by omega)]
      have e1 : aof (S.1 2 p) 4 = none := if_neg (by omega)
      rw [e1, tg_n]
      have h1 := mg_n (mf S p) K (S.1 2 p)
      unfold ntri at h1 ⊢
      rw [List.countP_append, List.countP_map]
      have e2 : (O.map fk).countP ((fun x => !(x.1 == 0) && x.2.1 == K) ∘ tg1) = (O.map fk).countP (tP K) := rfl
      rw [e2, hP.countP_eq]
      unfold ow_
      rw [List.countP_append, tlt_n ht, rl_n]
      have h2 := ha K
      rw [ec_ac] at h2
      have h3 := wt.2.2.1 K
      have h4 : dn (ec S p sd) q 2 K ≤ ec S p sd K := by unfold dn; split <;> omega
      split <;> omega
    refine cn_u (N := fun n => ntri (lst (xs_ (sQ (mf S p) (S.1 2 p) O) (S.1 2 p) true 4) n) (sQ (mf S p) (S.1 2 p) O i / 4)) (f := fun n => ¬ sQ (mf S p) (S.1 2 p) O n % 4 = 0 ∧ sQ (mf S p) (S.1 2 p) O n / 4 = sQ (mf S p) (S.1 2 p) O i / 4) (fun n hn => ?_) (fun n => ?_) hN hi hj ⟨f1, rfl⟩ ⟨f2, f3.symm⟩
    · show ntri (lst _ (n + 1)) _ = ntri (lst _ n) _ + 1
      rw [ntri_s, if_pos hn]
    · show ntri (lst _ n) _ ≤ ntri (lst _ (n + 1)) _
      rw [ntri_s]; omega
  · by_cases h2 : i < S.1 2 p
    · rw [sQ_d h2]
      exact (mf_ok B M p i).1
    · have hm := inO i hi h2
      rw [eO] at hm
      obtain ⟨j, j1, j2, j3⟩ := clw_m 34 0 0 0 hm
      rw [← eO] at j3
      omega
