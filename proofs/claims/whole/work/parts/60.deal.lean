theorem Rr.cn {m m0 : zm} {S S' : zS} (R : Rr m S m0) (h1 : ∀ a j, ev a j → a < 30 → S'.1 a j = S.1 a j) (h2 : S'.2.1 = S.2.1) (h3 : ∀ p, p < 4 → S'.2.2 0 p = S.2.2 0 p) : Rr m S' m0 :=
  ⟨fun a j h => by
    rw [R.n a j h]
    unfold sv
    by_cases ha : a < 30
    · rw [if_pos ha, if_pos ha, h1 a j h ha]
    · rw [if_neg ha, if_neg ha, h2], fun p hp => by rw [h3 p hp]; exact R.y p hp, R.fr⟩
/-- the count as the reference deals -/
def cR (S : zS) (p k : Nat) : Nat → Nat
  | 0 => 0
  | n + 1 => cR S p k n + (if (S.1 12 0 + n / 13) % 4 = p ∧ S.1 0 n = k then 1 else 0)
theorem cR_n {S : zS} (hd : S.1 12 0 < 4) {p k : Nat} (hp : p < 4) : ∀ n, n ≤ 52 → cR S p k n = cnt S p k (min (n - 13 * sea S p) 13)
  | 0, _ => by rw [show min (0 - 13 * sea S p) 13 = 0 by omega]; rfl
  | n + 1, h => by
    have ih := cR_n hd hp (k := k) n (by omega)
    rw [cR, ih]
    have hs : sea S p < 4 := by unfold sea; omega
    by_cases e : (S.1 12 0 + n / 13) % 4 = p
    · have e2 : n / 13 = sea S p := by unfold sea; omega
      have e3 : min (n - 13 * sea S p) 13 = n - 13 * sea S p := by omega
      have e4 : min (n + 1 - 13 * sea S p) 13 = n - 13 * sea S p + 1 := by omega
      rw [e3, e4]
      unfold cnt
      rw [wnf_s, show 13 * sea S p + (n - 13 * sea S p) = n by omega]
      simp only [e, true_and]
    · have e2 : ¬ n / 13 = sea S p := by
        intro z
        apply e
        unfold sea at z
        omega
      rw [if_neg (fun z => e z.1), show min (n + 1 - 13 * sea S p) 13 = min (n - 13 * sea S p) 13 by omega]; rfl
theorem cR_t {S : zS} {k : Nat} : ∀ n, cR S 0 k n + cR S 1 k n + cR S 2 k n + cR S 3 k n = wnf (S.1 0) k n
  | 0 => rfl
  | n + 1 => by
    have ih := cR_t (S := S) (k := k) n
    rw [cR, cR, cR, cR, wnf_s, ← ih]
    by_cases h : S.1 0 n = k
    · simp only [h, and_true, if_true]
      rcases (show (S.1 12 0 + n / 13) % 4 = 0 ∨ (S.1 12 0 + n / 13) % 4 = 1 ∨ (S.1 12 0 + n / 13) % 4 = 2 ∨ (S.1 12 0 + n / 13) % 4 = 3 by omega) with e | e | e | e <;> rw [e] <;> simp <;> omega
    · simp only [h, and_false, if_false]
      omega
theorem cnt_t {S : zS} (hd : S.1 12 0 < 4) {k : Nat} : cnt S 0 k 13 + cnt S 1 k 13 + cnt S 2 k 13 + cnt S 3 k 13 = wnf (S.1 0) k 52 := by
  have h : ∀ p, p < 4 → cnt S p k 13 = cR S p k 52 := fun p hp => by
    have hs : sea S p < 4 := by unfold sea; omega
    rw [cR_n hd hp 52 (by omega), show min (52 - 13 * sea S p) 13 = 13 by omega]
  rw [h 0 (by omega), h 1 (by omega), h 2 (by omega), h 3 (by omega), cR_t]
theorem csum_wnf {g : Nat → Nat} : ∀ n, (∀ i, g i < 34) → csum (fun k => wnf g k n) 34 = n
  | 0, _ => csum_0 (fun _ _ => rfl)
  | n + 1, h => by
    have ih := csum_wnf n h
    have e : (fun k => wnf g k (n + 1)) = upc (fun k => wnf g k n) (g n) := by
      funext k
      unfold upc
      rw [wnf_s]
      by_cases z : g n = k
      · rw [if_pos z, if_pos z.symm]
      · rw [if_neg z, if_neg (fun y => z y.symm)]; rfl
    rw [e, csum_upc, ih, if_pos (h n)]
theorem dl_1 (S : zS) (a j : Nat) : (dlS S).1 a j = if a = 28 ∧ j = 0 then 0 else if a = 25 ∧ j = 0 then 52 else if a = 16 ∧ j = 0 then 0 else if a = 1 ∧ j < 136 ∧ sea S (j / 34) < 4 then cnt S (j / 34) (j % 34) 13 else if (a = 2 ∨ a = 4 ∨ a = 6 ∨ a = 7 ∨ a = 8) ∧ j < 4 ∧ sea S j < 4 then 0 else S.1 a j := rfl
theorem sea_4 (S : zS) (p : Nat) : sea S p < 4 := by unfold sea; omega
theorem dl_c {S : zS} {p k : Nat} (hp : p < 4) (hk : k < 34) : (dlS S).1 1 (34 * p + k) = cnt S p k 13 := by
  rw [dl_1, if_neg (by omega), if_neg (by omega), if_neg (by omega), if_pos ⟨rfl, by omega, sea_4 _ _⟩, show (34 * p + k) / 34 = p by omega, show (34 * p + k) % 34 = k by omega]
theorem dl_z {S : zS} {a p : Nat} (hp : p < 4) (ha : a = 2 ∨ a = 4 ∨ a = 6 ∨ a = 7 ∨ a = 8) : (dlS S).1 a p = 0 := by
  rw [dl_1, if_neg (by omega), if_neg (by omega), if_neg (by omega), if_neg (by omega), if_pos ⟨ha, hp, sea_4 _ _⟩]
theorem dl_f {S : zS} {a : Nat} (ha : ¬ (a = 28 ∨ a = 25 ∨ a = 16 ∨ a = 1 ∨ a = 2 ∨ a = 4 ∨ a = 6 ∨ a = 7 ∨ a = 8)) : (dlS S).1 a = S.1 a := by
  funext j
  rw [dl_1, if_neg (by omega), if_neg (by omega), if_neg (by omega), if_neg (by omega), if_neg (by omega)]
theorem cnt_4 {S : zS} (W : Wf S) {p k : Nat} (hp : p < 4) (hk : k < 34) : cnt S p k 13 ≤ 4 := by
  have hd : S.1 12 0 < 4 := by have := W.1.b12 0; omega
  have h1 := cnt_t hd (k := k)
  have h2 := wnf_m (f := S.1 0) (k := k) (show 52 ≤ 136 by omega)
  have h3 : wnf (S.1 0) k 136 = 4 := W.2.2.2.2.1.1 k hk
  rcases (show p = 0 ∨ p = 1 ∨ p = 2 ∨ p = 3 by omega) with e | e | e | e <;> subst e <;> omega
theorem dl_W {S : zS} (W : Wf S) (h : S.1 11 0 = 0) : Wg (dlS S) ∧ Wn (dlS S) ∧ (dlS S).1 28 0 = 0 ∧ (dlS S).1 20 0 = 52 ∧ (dlS S).1 17 0 = 0 := by
  have W' := W
  obtain ⟨B, M, w, r, A, _, o, _, _⟩ := W
  have hd : S.1 12 0 < 4 := by have := B.b12 0; omega
  obtain ⟨a1, a2, a3, _, a5⟩ := A
  obtain ⟨p52, q0⟩ := a5 h
  have e20 : (dlS S).1 20 0 = 52 := by rw [dl_f (by omega)]; exact p52
  have e17 : (dlS S).1 17 0 = 0 := by rw [dl_f (by omega)]; exact q0
  have e25 : (dlS S).1 25 0 = 52 := rfl
  have ecf : ∀ p, p < 4 → ∀ k, k < 34 → cf (dlS S) p k = cnt S p k 13 := fun p hp k hk => by rw [cf_at hk, dl_c hp hk]
  have eo : ∀ p, p < 4 → ∀ k, k < 34 → oS (dlS S) p k = cnt S p k 13 := fun p hp k hk => by
    unfold oS own_
    rw [dl_z hp (Or.inl rfl), ecf p hp k hk]; rfl
  refine ⟨⟨fun a j ha => ?_, M.c (dl_f (by omega)) (dl_f (by omega)) (dl_f (by omega)), w.c rfl rfl ?_, fun p hp => ⟨?_, fun z => absurd (dl_z hp (by omega)) z, fun z => ?_⟩, fun k hk => ?_, by rw [e20]; omega, by rw [e20, e17]; omega, by rw [e25, e20], fun p hp => ?_⟩, ⟨fun p hp => ?_, fun k hk => ?_, ?_⟩, rfl, e20, e17⟩
  · rw [dl_1]
    by_cases z1 : a = 28 ∧ j = 0
    · rw [if_pos z1]; omega
    · rw [if_neg z1]
      by_cases z2 : a = 25 ∧ j = 0
      · rw [if_pos z2, z2.1]; decide
      · rw [if_neg z2]
        by_cases z3 : a = 16 ∧ j = 0
        · rw [if_pos z3]; omega
        · rw [if_neg z3]
          by_cases z4 : a = 1 ∧ j < 136 ∧ sea S (j / 34) < 4
          · rw [if_pos z4, z4.1]
            exact cnt_4 W' (by omega) (Nat.mod_lt _ (by omega))
          · rw [if_neg z4]
            split
            · omega
            · exact B a j ha
  · funext p
    show (if (0 : Nat) = 1 ∧ p < 4 ∧ sea S p < 4 then 0 else S.2.2 0 p) = S.2.2 0 p
    rw [if_neg (by omega)]
  · show (if (1 : Nat) = 1 ∧ p < 4 ∧ sea S p < 4 then (0 : Int64) else S.2.2 1 p) = _
    rw [if_pos ⟨rfl, hp, sea_4 _ _⟩, mk_0]
    · rfl
    · intro k _
      refine bb_f ?_
      rintro ⟨i, hi, _⟩
      rw [dl_z hp (by omega)] at hi
      omega
  · rw [dl_z hp (by omega)] at z; omega
  · unfold wn
    rw [dl_f (by omega)]
    exact a1 k hk
  · rw [dl_f (by omega)]; exact o (by omega) p hp
  · unfold ssm
    rw [dl_z hp (by omega), csum_ext (c' := fun k => cnt S p k 13) (fun k hk => ecf p hp k hk)]
    unfold cnt
    rw [csum_wnf 13 (fun i => by have := B.b0 (13 * sea S p + i); omega)]
  · have h1 := cnt_t hd (k := k)
    have h2 := wnf_m (f := S.1 0) (k := k) (show 52 ≤ 136 by omega)
    have h3 : wnf (S.1 0) k 136 = 4 := a1 k hk
    unfold tot rst wn
    rw [eo 0 (by omega) k hk, eo 1 (by omega) k hk, eo 2 (by omega) k hk, eo 3 (by omega) k hk, e17, e20, dl_f (by omega)]
    show _ + (wnf (S.1 0) k 136 - wnf (S.1 0) k 52) ≤ 4
    omega
  · unfold rsm msm
    rw [dl_z (a := 4) (p := 0) (by omega) (by omega), dl_z (a := 4) (p := 1) (by omega) (by omega), dl_z (a := 4) (p := 2) (by omega) (by omega), dl_z (a := 4) (p := 3) (by omega) (by omega)]
    omega
theorem w_Table_deal {m m0 : zm} {S : zS} {K : Int32 → zm → Prop} (R : Rc m S m0) (W : Wf S) (h : S.1 11 0 = 0) (k : ∀ m', Rc m' (dwS (dlS S) (S.1 12 0)) m0 → K 1 m') : j_Table_deal m K := by
  have B := W.1
  have hd : S.1 12 0 < 4 := by have := B.b12 0; omega
  obtain ⟨G, N, e28, e20, e17⟩ := dl_W W h
  have e0 : (m.1 0 3 = 0) = (S.1 11 0 = 0) := ph_eq B R.g11 0 (by omega)
  have key : ∀ (n s : Nat) (m : zm), s + n = 4 → Rc m (dsS S s) m0 → j_Table_deal_L11 K (n + 1) (nI s) m := by
    intro n
    induction n with
    | zero =>
      intro s m hs R
      have hs : s = 4 := by omega
      subst hs
      rw [j_Table_deal_L11]
      refine ⟨fun _ => R.t16 (v := 0) (fun m1 R => ?_), fun z => absurd (by decide) z⟩
      have R : Rc m1 (dlS S) m0 := (R.x 25 0 52 (fun _ h => h)).x 28 0 0 (fun _ h => h)
      rw [R.g12, dl_f (by omega)]
      exact w_drawFor R G.1 hd (by rw [e20]; omega) (fun m2 R => k m2 R)
    | succ n ih =>
      intro s m hs R
      have hp : (S.1 12 0 + s) % 4 < 4 := Nat.mod_lt _ (by omega)
      have e12 : m.1 0 4 = nI (S.1 12 0) := R.g12
      rw [j_Table_deal_L11]
      refine ⟨fun z => ?_, fun _ => ?_⟩
      · rw [show (4 : Int32) = nI 4 from rfl, pz_le (by omega) (by omega)] at z; omega
      · rw [e12, nI_add, pz_rem4 (by omega)]
        refine ⟨pz_in hp (by omega), fun y4 h4 => ?_⟩
        rw [nI_clamp (by omega)] at h4
        subst h4
        refine w_clearHand R hp (fun m5 R => ?_)
        rw [← cl_same] at R
        refine w_dealTo (S := S) R ?_ B hp (sea_p hd (show s < 4 by omega)).symm (fun m6 R y7 h7 => ?_)
        · funext j; rfl
        · rw [h7, nI_1]
          rw [ds_s hd (show s < 4 by omega)] at R
          exact ih (s + 1) m6 (by omega) R
  unfold j_Table_deal
  rw [e0]
  exact ⟨fun _ => ⟨5, key 4 0 m rfl (by rw [ds_0]; exact R)⟩, fun z => absurd h z⟩
def z1S (S : zS) (n : Nat) : zS := (fun a j => if a = 1 ∧ j < n then 0 else S.1 a j, S.2)
def z2S (S : zS) (n : Nat) : zS := (fun a j => if a = 1 ∧ j < 136 then 0 else if (a = 2 ∨ a = 4 ∨ a = 6 ∨ a = 7 ∨ a = 8 ∨ a = 9) ∧ j < n then 0 else S.1 a j, S.2)
def z3S (S : zS) (n : Nat) : zS := (fun a j => if a = 1 ∧ j < 136 then cR S (j / 34) (j % 34) n else if (a = 2 ∨ a = 4 ∨ a = 6 ∨ a = 7 ∨ a = 8 ∨ a = 9) ∧ j < 4 then 0 else S.1 a j, S.2)
theorem z1_s (S : zS) (n : Nat) : us (z1S S n) 1 n 0 = z1S S (n + 1) := by
  refine Prod.ext ?_ rfl
  funext a j
  rw [us_1]
  show (if a = 1 ∧ j = n then 0 else if a = 1 ∧ j < n then 0 else S.1 a j) = if a = 1 ∧ j < n + 1 then 0 else S.1 a j
  by_cases h1 : a = 1 ∧ j = n
  · rw [if_pos h1, if_pos (by omega)]
  · rw [if_neg h1]
    by_cases h2 : a = 1 ∧ j < n
    · rw [if_pos h2, if_pos (by omega)]
    · rw [if_neg h2, if_neg (by omega)]
theorem z1_0 (S : zS) : z1S S 0 = S := by
  refine Prod.ext ?_ rfl
  funext a j
  show (if a = 1 ∧ j < 0 then 0 else S.1 a j) = S.1 a j
  rw [if_neg (by omega)]
theorem z2_0 (S : zS) : z1S S 136 = z2S S 0 := by
  refine Prod.ext ?_ rfl
  funext a j
  show (if a = 1 ∧ j < 136 then 0 else S.1 a j) = if a = 1 ∧ j < 136 then 0 else if (a = 2 ∨ a = 4 ∨ a = 6 ∨ a = 7 ∨ a = 8 ∨ a = 9) ∧ j < 0 then 0 else S.1 a j
  rw [if_neg (show ¬ ((a = 2 ∨ a = 4 ∨ a = 6 ∨ a = 7 ∨ a = 8 ∨ a = 9) ∧ j < 0) by omega)]
theorem z2_s (S : zS) (n : Nat) : us (us (us (us (us (us (z2S S n) 2 n 0) 4 n 0) 6 n 0) 7 n 0) 8 n 0) 9 n 0 = z2S S (n + 1) := by
  refine Prod.ext ?_ rfl
  funext a j
  show (if a = 9 ∧ j = n then 0 else if a = 8 ∧ j = n then 0 else if a = 7 ∧ j = n then 0 else if a = 6 ∧ j = n then 0 else if a = 4 ∧ j = n then 0 else if a = 2 ∧ j = n then 0 else if a = 1 ∧ j < 136 then 0 else if (a = 2 ∨ a = 4 ∨ a = 6 ∨ a = 7 ∨ a = 8 ∨ a = 9) ∧ j < n then 0 else S.1 a j) = if a = 1 ∧ j < 136 then 0 else if (a = 2 ∨ a = 4 ∨ a = 6 ∨ a = 7 ∨ a = 8 ∨ a = 9) ∧ j < n + 1 then 0 else S.1 a j
  by_cases h1 : a = 1
  · subst h1
    simp
  · simp only [h1, false_and, if_false]
    by_cases h2 : (a = 2 ∨ a = 4 ∨ a = 6 ∨ a = 7 ∨ a = 8 ∨ a = 9)
    · by_cases h3 : j = n
      · rw [if_pos (show (a = 2 ∨ a = 4 ∨ a = 6 ∨ a = 7 ∨ a = 8 ∨ a = 9) ∧ j < n + 1 from ⟨h2, by omega⟩)]
        rcases h2 with e | e | e | e | e | e <;> subst e <;> simp [h3]
      · simp only [h3, and_false, if_false]
        by_cases h4 : j < n
        · rw [if_pos ⟨h2, h4⟩, if_pos ⟨h2, by omega⟩]
        · rw [if_neg (fun z => h4 z.2), if_neg (fun z => by omega)]
    · rw [if_neg (by omega), if_neg (by omega), if_neg (by omega), if_neg (by omega), if_neg (by omega), if_neg (by omega), if_neg (fun z => h2 z.1), if_neg (fun z => h2 z.1)]
theorem z3_0 (S : zS) : z2S S 4 = z3S S 0 := rfl
theorem z3_s {S : zS} {n p k : Nat} (hp : p = (S.1 12 0 + n / 13) % 4) (hk : k = S.1 0 n) (hk2 : k < 34) : us (z3S S n) 1 (34 * p + k) (cR S p k n + 1) = z3S S (n + 1) := by
  have hp4 : p < 4 := by omega
  refine Prod.ext ?_ rfl
  funext a j
  show (if a = 1 ∧ j = 34 * p + k then cR S p k n + 1 else if a = 1 ∧ j < 136 then cR S (j / 34) (j % 34) n else if (a = 2 ∨ a = 4 ∨ a = 6 ∨ a = 7 ∨ a = 8 ∨ a = 9) ∧ j < 4 then 0 else S.1 a j) = if a = 1 ∧ j < 136 then cR S (j / 34) (j % 34) (n + 1) else if (a = 2 ∨ a = 4 ∨ a = 6 ∨ a = 7 ∨ a = 8 ∨ a = 9) ∧ j < 4 then 0 else S.1 a j
  by_cases h1 : a = 1 ∧ j = 34 * p + k
  · rw [if_pos h1, if_pos (by omega), cR, show j / 34 = p by omega, show j % 34 = k by omega, if_pos ⟨hp.symm, hk.symm⟩]
  · rw [if_neg h1]
    by_cases h2 : a = 1 ∧ j < 136
    · rw [if_pos h2, if_pos h2, cR, if_neg]
      · rfl
      · intro z
        apply h1
        refine ⟨h2.1, ?_⟩
        rw [← hp, ← hk] at z
        omega
    · rw [if_neg h2, if_neg h2]
theorem w_Model_deal {m m0 : zm} {S : zS} {K : Int32 → zm → Prop} (R : Rr m S m0) (W : Wf S) (h : S.1 11 0 = 0) (k : ∀ m', Rr m' (dwS (dlS S) (S.1 12 0)) m0 → K 1 m') : j_Model_deal m K := by
  have B := W.1
  have hd : S.1 12 0 < 4 := by have := B.b12 0; omega
  obtain ⟨G, N, e28, e20, e17⟩ := dl_W W h
  have o := W.2.2.2.2.2.2.1 (by omega)
  have q0 : S.1 17 0 = 0 := (W.2.2.2.2.1.2.2.2.2 h).2
  have f0 : (m.1 33 3 = 0) = (S.1 11 0 = 0) := ph_eq B R.g11 0 (by omega)
  have k3 : ∀ (n i : Nat) (m : zm), i + n = 52 → Rr m (z3S S i) m0 → j_Model_deal_L88 K (n + 1) (nI i) m := by
    intro n
    induction n with
    | zero =>
      intro i m hi R
      have hi : i = 52 := by omega
      subst hi
      rw [j_Model_deal_L88]
      refine ⟨fun _ => R.t25 (v := 52) (fun m1 R => R.t17 (v := 0) (fun m2 R => R.t16 (v := 0) (fun m3 R => R.t28n (fun m4 R => ?_)))), fun z => absurd (by decide) z⟩
      have R : Rr m4 (dlS S) m0 := by
        refine R.cn (fun a j he ha => ?_) rfl (fun p hp => ?_)
        · rw [dl_1]
          show _ = (if a = 28 ∧ j = 0 then 0 else if a = 16 ∧ j = 0 then 0 else if a = 17 ∧ j = 0 then 0 else if a = 25 ∧ j = 0 then 52 else if a = 1 ∧ j < 136 then cR S (j / 34) (j % 34) 52 else if (a = 2 ∨ a = 4 ∨ a = 6 ∨ a = 7 ∨ a = 8 ∨ a = 9) ∧ j < 4 then 0 else S.1 a j)
          by_cases h28 : a = 28
          · subst h28
            simp
          by_cases h25 : a = 25
          · subst h25
            simp
          by_cases h16 : a = 16
          · subst h16
            simp
          by_cases h17 : a = 17
          · subst h17
            have hj : j = 0 := he
            subst hj
            simp [q0]
          by_cases h9 : a = 9
          · subst h9
            have hj : j < 4 := he
            simp [hj, o j hj]
          by_cases h1 : a = 1
          · subst h1
            have hj : j < 136 := he
            simp only [hj, sea_4, and_true, if_true]
            simp
            have hs := sea_4 S (j / 34)
            rw [cR_n hd (show j / 34 < 4 by omega) 52 (by omega), show min (52 - 13 * sea S (j / 34)) 13 = 13 by omega]
          · simp only [h28, h25, h16, h17, h9, h1, false_and, if_false, sea_4, and_true, or_false]
        · show (if (0 : Nat) = 1 ∧ p < 4 ∧ sea S p < 4 then (0 : Int64) else S.2.2 0 p) = S.2.2 0 p
          rw [if_neg (by omega)]
      rw [R.g12, dl_f (by omega)]
      exact w_drawForR R G.1 hd (by rw [e20, e17]; omega) (by rw [e20]; rfl) (fun m5 R => k m5 R)
    | succ n ih =>
      intro i m hi R
      have b0 := B.b0 i
      have e12 : m.1 33 5 = nI (S.1 12 0) := R.g12
      have e0 : m.1 34 i = nI (S.1 0 i) := R.g0 (show i < 136 by omega)
      rw [j_Model_deal_L88]
      refine ⟨fun z => ?_, fun _ => ?_⟩
      · rw [show (52 : Int32) = nI 52 from rfl, pz_le (by omega) (by omega)] at z; omega
      · rw [e12, show (13 : Int32) = nI 13 from rfl, pk_div (by omega) (by omega) (by omega), nI_add, pz_rem4 (by omega), nI_clamp (show i < 2 ^ 31 by omega), e0, pz_34, nI_clamp (by omega)]
        have hp : (S.1 12 0 + i / 13) % 4 < 4 := Nat.mod_lt _ (by omega)
        refine ⟨pz_in (by omega) (by omega), pz_in (by omega) (by omega), pz_in (by omega) (by omega), ?_⟩
        have g1 : m.1 36 (34 * ((S.1 12 0 + i / 13) % 4) + S.1 0 i) = nI (cR S ((S.1 12 0 + i / 13) % 4) (S.1 0 i) i) := by
          rw [R.g1 hp (by omega)]
          show nI (if 1 = 1 ∧ 34 * ((S.1 12 0 + i / 13) % 4) + S.1 0 i < 136 then cR S ((34 * ((S.1 12 0 + i / 13) % 4) + S.1 0 i) / 34) ((34 * ((S.1 12 0 + i / 13) % 4) + S.1 0 i) % 34) i else _) = _
          rw [if_pos (by omega), show (34 * ((S.1 12 0 + i / 13) % 4) + S.1 0 i) / 34 = (S.1 12 0 + i / 13) % 4 by omega, show (34 * ((S.1 12 0 + i / 13) % 4) + S.1 0 i) % 34 = S.1 0 i by omega]
        rw [g1, nI_1]
        refine R.t1 hp (show S.1 0 i < 34 by omega) (fun m1 R y h => ?_)
        rw [h, nI_1]
        rw [z3_s rfl rfl (by omega)] at R
        exact ih (i + 1) m1 (by omega) R
  have k2 : ∀ (n i : Nat) (m : zm), i + n = 4 → Rr m (z2S S i) m0 → j_Model_deal_L33 K (n + 1) (nI i) m := by
    intro n
    induction n with
    | zero =>
      intro i m hi R
      have hi : i = 4 := by omega
      subst hi
      rw [j_Model_deal_L33]
      exact ⟨fun _ => ⟨53, k3 52 0 m rfl R⟩, fun z => absurd (by decide) z⟩
    | succ n ih =>
      intro i m hi R
      have hp : i < 4 := by omega
      rw [j_Model_deal_L33]
      refine ⟨fun z => ?_, fun _ => ⟨pz_in hp (by omega), ?_⟩⟩
      · rw [show (4 : Int32) = nI 4 from rfl, pz_le (by omega) (by omega)] at z; omega
      · rw [nI_clamp (by omega)]
        refine R.t2 hp (v := 0) (fun m R => ⟨pz_in hp (by omega), R.t4 hp (v := 0) (fun m R => ⟨pz_in hp (by omega), R.t6 hp (v := 0) (fun m R => ⟨pz_in hp (by omega), R.t7 hp (v := 0) (fun m R => ⟨pz_in hp (by omega), R.t8 hp (v := 0) (fun m R => ⟨pz_in hp (by omega), R.t9 hp (v := 0) (fun m R y h => ?_)⟩)⟩)⟩)⟩)⟩)
        rw [h, nI_1]
        rw [z2_s] at R
        exact ih (i + 1) m (by omega) R
  have k1 : ∀ (n i : Nat) (m : zm), i + n = 136 → Rr m (z1S S i) m0 → j_Model_deal_L11 K (n + 1) (nI i) m := by
    intro n
    induction n with
    | zero =>
      intro i m hi R
      have hi : i = 136 := by omega
      subst hi
      rw [j_Model_deal_L11]
      exact ⟨fun _ => ⟨5, k2 4 0 m rfl (by rw [← z2_0]; exact R)⟩, fun z => absurd (by decide) z⟩
    | succ n ih =>
      intro i m hi R
      rw [j_Model_deal_L11]
      refine ⟨fun z => ?_, fun _ => ⟨pz_in (by omega) (by omega), ?_⟩⟩
      · rw [show (136 : Int32) = nI 136 from rfl, pz_le (by omega) (by omega)] at z; omega
      · rw [nI_clamp (by omega)]
        intro m1 h1 y h
        have R := R.w 1 i 0 h1 (show i < 136 by omega) (by omega) rfl rfl rfl
        rw [h, nI_1]
        rw [z1_s] at R
        exact ih (i + 1) m1 (by omega) R
  unfold j_Model_deal
  rw [f0]
  exact ⟨fun _ => ⟨137, k1 136 0 m rfl (by rw [z1_0]; exact R)⟩, fun z => absurd h z⟩
theorem q_deal {m : zm} (I : Inv m) {K : Int32 → Int32 → zm → Prop} (hK : ∀ r m', Inv m' → K r r m') : j_Table_deal m (fun r1 m1 => j_Model_deal m1 (fun r2 m2 => K r1 r2 m2)) := by
  have I' := I
  obtain ⟨S, R, Q, W⟩ := I
  have B := W.1
  have hd : S.1 12 0 < 4 := by have := B.b12 0; omega
  by_cases h : S.1 11 0 = 0
  · obtain ⟨G, N, e28, e20, e17⟩ := dl_W W h
    refine w_Table_deal R W h (fun m1 R => ?_)
    exact w_Model_deal (Q.re R.fr) W h (fun m2 Q => hK _ _ (Inv.mk R Q (Wf_dw G N e28 (by rw [e20, e17]; omega) hd)))
  · have e0 : (m.1 0 3 = 0) = (S.1 11 0 = 0) := ph_eq B R.g11 0 (by omega)
    have f0 : (m.1 33 3 = 0) = (S.1 11 0 = 0) := ph_eq B Q.g11 0 (by omega)
    unfold j_Table_deal
    rw [e0]
    refine ⟨fun z => absurd z h, fun _ => ?_⟩
    show j_Model_deal m (fun r2 m2 => K 0 r2 m2)
    unfold j_Model_deal
    rw [f0]
    exact ⟨fun z => absurd z h, fun _ => hK _ _ I'⟩
