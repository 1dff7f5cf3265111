/-! A QUAD IS MADE OF A TRIPLET -/
theorem msum_up {d d' : Nat → Nat} {k i : Nat} (h : ∀ j, ¬ j = i → d' j = d j) : ∀ n, msum d' k n + (if i < n then cin_ (d i) k else 0) = msum d k n + (if i < n then cin_ (d' i) k else 0)
  | 0 => by rw [if_neg (by omega), if_neg (by omega)]; rfl
  | n + 1 => by
    have ih := msum_up (k := k) h n
    rw [msum, msum]
    by_cases e : n = i
    · subst e
      rw [if_neg (by omega), if_neg (by omega)] at ih
      rw [if_pos (by omega), if_pos (by omega)]
      omega
    · rw [h n e]
      by_cases q : i < n
      · rw [if_pos q, if_pos q] at ih
        rw [if_pos (by omega), if_pos (by omega)]
        omega
      · rw [if_neg q, if_neg q] at ih
        rw [if_neg (by omega), if_neg (by omega)]
        omega
theorem rt_f {S : zS} {p i t a : Nat} (h : ¬ a = 3) (h2 : ¬ a = 23) : (rtS S p i t).1 a = S.1 a := by
  funext j
  unfold rtS
  rw [us_1, us_1, if_neg (by omega), if_neg (by omega)]
theorem rt_3 (S : zS) (p i t j : Nat) : (rtS S p i t).1 3 j = if j = 4 * p + i then 4 * t + 2 else S.1 3 j := by
  unfold rtS
  rw [us_1, us_1, if_neg (by omega)]
  by_cases h : j = 4 * p + i
  · rw [if_pos ⟨rfl, h⟩, if_pos h]
  · rw [if_neg (fun z => h z.2), if_neg h]
theorem rt_23 (S : zS) (p i t j : Nat) : (rtS S p i t).1 23 j = if j = 4 * p + i then 2 else S.1 23 j := by
  unfold rtS
  rw [us_1, us_1]
  by_cases h : j = 4 * p + i
  · rw [if_pos ⟨rfl, h⟩, if_pos h]
  · rw [if_neg (fun z => h z.2), if_neg h, if_neg (by omega)]
theorem rt_W {S : zS} {p i t : Nat} (G : Wg S) (hp : p < 4) (hi : i < S.1 2 p) (he : mf S p i = 4 * t + 1) (ht : t < 34) : Wg (rtS S p i t) ∧ (∀ j, tot (rtS S p i t) j = tot S j + (if j = t then 1 else 0)) := by
  obtain ⟨B, M, w, r, wc, p1, p2, p3, o⟩ := G
  have b2 := B.b2 p
  have f : ∀ a, ¬ a = 3 → ¬ a = 23 → (rtS S p i t).1 a = S.1 a := fun a h h2 => rt_f h h2
  have h6 : S.1 6 p = 0 := by
    refine Classical.byContradiction (fun z => ?_)
    have := (r p hp).2.1 z i hi
    omega
  have mr : ∀ r, r < 4 → ¬ r = p → ∀ j, j < 4 → mf (rtS S p i t) r j = mf S r j := fun r _ hr j hj => by
    unfold mf
    rw [rt_3, if_neg (by omega)]
  refine ⟨⟨?_, fun j => ?_, w.c rfl rfl rfl, fun r' hr' => ?_, fun k hk => ?_, by rw [f 20 (by omega) (by omega)]; exact p1, by rw [f 20 (by omega) (by omega), f 17 (by omega) (by omega)]; exact p2, by rw [f 20 (by omega) (by omega), f 25 (by omega) (by omega)]; exact p3, fun q hq => by rw [f 9 (by omega) (by omega)]; exact o q hq⟩, fun j => ?_⟩
  · unfold rtS
    exact Bd.u (Bd.u B (show 4 * t + 2 ≤ 135 by omega)) (show 2 ≤ 3 by omega)
  · rw [f 22 (by omega) (by omega), rt_23, rt_3]
    have := M j
    by_cases q : j = 4 * p + i
    · rw [if_pos q, if_pos q]
      unfold mf at he
      rw [q] at this ⊢
      rw [he] at this
      exact ⟨by omega, by omega, fun z => by omega⟩
    · rw [if_neg q, if_neg q]; exact this
  · obtain ⟨a1, a2, a3⟩ := r r' hr'
    refine ⟨?_, fun z => ?_, ?_⟩
    · rw [df_c (f 4 (by omega) (by omega)) (f 5 (by omega) (by omega))]; exact a1
    · rw [f 6 (by omega) (by omega)] at z
      have hne : ¬ r' = p := fun q => by rw [q] at z; exact z h6
      intro j hj
      rw [f 2 (by omega) (by omega)] at hj
      have b := B.b2 r'
      rw [mr r' hr' hne j (by omega)]
      exact a2 z j hj
    · rw [f 7 (by omega) (by omega), f 6 (by omega) (by omega)]; exact a3
  · unfold wn; rw [f 0 (by omega) (by omega)]; exact wc k hk
  · have := tot4 (S := S) (T := rtS S p i t) (p := p) (k := j) (x := 0) (y := if j = t then 1 else 0) hp ?_ ?_
    · omega
    · unfold oS own_
      rw [cf_c (f 1 (by omega) (by omega)), f 2 (by omega) (by omega)]
      have h1 := msum_up (d := mf S p) (d' := mf (rtS S p i t) p) (k := j) (i := i) (fun j' h => by
        unfold mf
        rw [rt_3, if_neg (by omega)]) (S.1 2 p)
      rw [if_pos hi, if_pos hi, he, show mf (rtS S p i t) p i = 4 * t + 2 from by unfold mf; rw [rt_3, if_pos rfl], cin_1, cin_2] at h1
      by_cases q : j = t
      · rw [if_pos q] at *
        rw [if_pos q] at h1
        omega
      · rw [if_neg q] at *
        rw [if_neg q] at h1
        omega
    · intro r hr hne
      unfold oS own_
      rw [cf_c (f 1 (by omega) (by omega)), f 2 (by omega) (by omega)]
      have b := B.b2 r
      rw [msum_c (d' := mf S r) (fun j' hj' => mr r hr hne j' (by omega))]
theorem h_added {S : zS} (H : Wh S) (h28 : S.1 28 0 = 0) (hl : 0 < lft S) (hq : S.1 17 0 < 4) (hx : ∃ i, i < S.1 2 (S.1 14 0) ∧ mf S (S.1 14 0) i = 4 * til S + 1) : ∃ S', Wf S' ∧ Cst j_Table_completeAddedQuad S S' ∧ Rst j_Model_completeAdded S S' := by
  obtain ⟨i, hi, he⟩ := hx
  obtain ⟨G, s, tt, rv, h21, h27, an⟩ := H
  have B := G.1
  have M := G.2.1
  have b21 := B.b21 0
  have b14 := B.b14 0
  have b2 := B.b2 (S.1 14 0)
  have hp : S.1 14 0 < 4 := by omega
  have h34 : til S < 34 := til_lt B h21
  have et : S.1 21 0 = til S + 1 := by unfold til; omega
  have un : ∀ j, j < S.1 2 (S.1 14 0) → mf S (S.1 14 0) j = 4 * til S + 1 → j = i := by
    intro j hj hej
    refine Classical.byContradiction (fun ne => ?_)
    have h1 := tt (til S) h34
    rw [if_pos rfl] at h1
    have h2 := oS_tot (S := S) (k := til S) hp
    have h3 : 6 ≤ msum (mf S (S.1 14 0)) (til S) (S.1 2 (S.1 14 0)) := by
      rcases (show j < i ∨ i < j by omega) with q | q
      · have := msum_2 (d := mf S (S.1 14 0)) (k := til S) q hi
        rw [he, hej, cin_1, if_pos rfl] at this
        omega
      · have := msum_2 (d := mf S (S.1 14 0)) (k := til S) q hj
        rw [he, hej, cin_1, if_pos rfl] at this
        omega
    unfold oS own_ at h2
    omega
  have rw_ := rt_W G hp hi he h34
  have f : ∀ a, ¬ a = 3 → ¬ a = 23 → (rtS S (S.1 14 0) i (til S)).1 a = S.1 a := fun a h h2 => rt_f h h2
  refine ⟨cqS (rtS S (S.1 14 0) i (til S)) (S.1 14 0), Wf_cq rw_.1 ⟨fun q hq' => ?_, fun k hk => ?_, ?_⟩ h28 ?_ hq hp, ?_, ?_⟩
  · rw [ssm_c (S := S) (f 1 (by omega) (by omega)) (f 2 (by omega) (by omega))]; exact s q hq'
  · rw [rw_.2 k]
    have : rst (rtS S (S.1 14 0) i (til S)) k = rst S k := by unfold rst wn; rw [f 0 (by omega) (by omega), f 17 (by omega) (by omega), f 20 (by omega) (by omega)]
    rw [this]; exact tt k hk
  · unfold rsm msm at *
    rw [f 4 (by omega) (by omega), f 2 (by omega) (by omega), f 20 (by omega) (by omega), f 17 (by omega) (by omega)]
    exact rv
  · rw [f 20 (by omega) (by omega), f 17 (by omega) (by omega)]
    unfold lft at hl
    omega
  · intro m m0 K R k
    unfold j_Table_completeAddedQuad
    have g9 : m.1 0 9 = nI (til S) := by rw [R.g21, et, nI_pred]
    rw [R.g14, nI_clamp (by omega), g9]
    refine ⟨pz_in hp (by omega), w_raise R B hp h34 hi he un (fun m1 R => ?_)⟩
    exact w_completeQuad R rw_.1.1 hp rfl hq k
  · intro m m0 K R k
    unfold j_Model_completeAdded
    rw [R.g14, R.g27, h27]
    refine w_tripPlace R B M hp h34 (fun j hj hej => ?_) (fun z => absurd ⟨i, hi, he⟩ z)
    have ej := un j hj hej
    subst ej
    rw [nI_clamp (by omega)]
    refine ⟨pz_in (by omega) (by omega), R.t23 (by omega) (v := 2) (fun m1 R => ?_)⟩
    rw [show m1.1 33 4 = nI (S.1 14 0) from R.g14]
    have R := R.x 3 (4 * S.1 14 0 + j) (4 * til S + 2) (fun _ h => h)
    rw [us_cm _ (by omega : ¬ (23 = 3 ∧ 4 * S.1 14 0 + j = 4 * S.1 14 0 + j))] at R
    exact w_completeQuadR R rw_.1.1 hp hq k
