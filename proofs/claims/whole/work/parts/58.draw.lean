/-! A TILE COMES TO A PLAYER -/
theorem us_id (S : zS) (a i : Nat) : us S a i (S.1 a i) = S := by
  refine Prod.ext ?_ rfl
  funext b j
  rw [us_1]
  split
  · rename_i h; rw [h.1, h.2]
  · rfl
theorem Rc.t21' {m m0 : zm} {S : zS} (R : Rc m S m0) {v : Nat} {G : zm → Prop} (k_ : ∀ m', Rc m' (us S 21 0 (v + 1)) m0 → G m') : ∀ m', m' = zm_wI m 0 9 (nI v) → G m' := fun m' h => k_ m' (R.w 21 0 (v + 1) h rfl (by omega) rfl rfl (nI_pred v).symm)
theorem Rc.t21n {m m0 : zm} {S : zS} (R : Rc m S m0) {G : zm → Prop} (k_ : ∀ m', Rc m' (us S 21 0 0) m0 → G m') : ∀ m', m' = zm_wI m 0 9 (-1) → G m' := fun m' h => k_ m' (R.w 21 0 0 h rfl (by omega) rfl rfl (by decide))
theorem Rr.t26' {m m0 : zm} {S : zS} (R : Rr m S m0) {v : Nat} {G : zm → Prop} (k_ : ∀ m', Rr m' (us S 26 0 (v + 1)) m0 → G m') : ∀ m', m' = zm_wI m 33 18 (nI v) → G m' := fun m' h => k_ m' (R.w 26 0 (v + 1) h rfl (by omega) rfl rfl (nI_pred v).symm)
theorem Rr.t26n {m m0 : zm} {S : zS} (R : Rr m S m0) {G : zm → Prop} (k_ : ∀ m', Rr m' (us S 26 0 0) m0 → G m') : ∀ m', m' = zm_wI m 33 18 (-1) → G m' := fun m' h => k_ m' (R.w 26 0 0 h rfl (by omega) rfl rfl (by decide))
theorem Rr.t28' {m m0 : zm} {S : zS} (R : Rr m S m0) {v : Nat} {G : zm → Prop} (k_ : ∀ m', Rr m' (us S 28 0 (v + 1)) m0 → G m') : ∀ m', m' = zm_wI m 33 23 (nI v) → G m' := fun m' h => k_ m' (R.w 28 0 (v + 1) h rfl (by omega) rfl rfl (nI_pred v).symm)
theorem Rr.t28n {m m0 : zm} {S : zS} (R : Rr m S m0) {G : zm → Prop} (k_ : ∀ m', Rr m' (us S 28 0 0) m0 → G m') : ∀ m', m' = zm_wI m 33 23 (-1) → G m' := fun m' h => k_ m' (R.w 28 0 0 h rfl (by omega) rfl rfl (by decide))
theorem w_forget {p : Nat} {m m0 : zm} {S : zS} {K : zm → Prop} (R : Rc m S m0) (B : Bd S) (hp : p < 4) (k : ∀ m', Rc m' (us S 8 p (if S.1 6 p = 0 then 0 else S.1 8 p)) m0 → K m') : j_Player_forgetMissed (13 + 5 * p) m K := by
  have b := B.b6 p
  unfold j_Player_forgetMissed
  rw [R.g6 hp, pz_0 (by omega)]
  refine ⟨fun h => ?_, fun h => R.t8 hp (v := 0) (fun m R => k m ?_)⟩
  · refine k m ?_
    rw [if_neg h, us_id]
    exact R
  · rw [if_pos h]; exact R
/-- p gets k: behind it rep says whether it is a replacement -/
def gvS (S : zS) (p k rep : Nat) : zS := us (us (us (us (us (us (us (us S 14 0 p) 21 0 (k + 1)) 1 (34 * p + k) (S.1 1 (34 * p + k) + 1)) 8 p (if S.1 6 p = 0 then 0 else S.1 8 p)) 11 0 1) 18 0 rep) 24 0 rep) 26 0 (k + 1)
theorem w_giveDrawn {p k : Nat} {m m0 : zm} {S : zS} {K : zm → Prop} (R : Rc m S m0) (B : Bd S) (h14 : S.1 14 0 = p) (hp : p < 4) (hk : k < 34) (kk : ∀ m', Rc m' (us (us (us (us S 21 0 (k + 1)) 1 (34 * p + k) (S.1 1 (34 * p + k) + 1)) 8 p (if S.1 6 p = 0 then 0 else S.1 8 p)) 11 0 1) m0 → K m') : j_Table_giveDrawn (nI k) m K := by
  refine R.t21' (fun m1 R => ?_)
  have w1 : m1.1 0 8 = nI p := by rw [R.g14]; exact congrArg nI h14
  rw [w1, nI_clamp (by omega), nI_clamp (by omega)]
  refine ⟨pz_in hp (by omega), pz_in hk (by omega), pz_in hk (by omega), ?_⟩
  rw [R.g1 hp hk, nI_1]
  refine R.t1 hp hk (fun m3 R => ?_)
  have w3 : m3.1 0 8 = nI p := by rw [R.g14]; exact congrArg nI h14
  rw [w3, nI_clamp (by omega)]
  refine ⟨pz_in hp (by omega), ?_⟩
  have b6 := B.b6 p
  unfold j_Player_forgetMissed
  rw [R.g6 hp, show (us (us S 21 0 (k + 1)) 1 (34 * p + k) ((us S 21 0 (k + 1)).1 1 (34 * p + k) + 1)).1 6 p = S.1 6 p from rfl, pz_0 (by omega)]
  refine ⟨fun h => ?_, fun h => R.t8 hp (v := 0) (fun m R => R.t11 (v := 1) (fun m R => kk m ?_))⟩
  · refine R.t11 (v := 1) (fun m R => kk m ?_)
    rw [if_neg h, show S.1 8 p = (us (us S 21 0 (k + 1)) 1 (34 * p + k) (S.1 1 (34 * p + k) + 1)).1 8 p from rfl, us_id]
    exact R
  · rw [if_pos h]; exact R
/-- p draws from the wall -/
def dwS (S : zS) (p : Nat) : zS := gvS (us (us S 20 0 (S.1 20 0 + 1)) 25 0 (S.1 20 0 + 1)) p (S.1 0 (S.1 20 0)) 0
theorem w_drawFor {p : Nat} {m m0 : zm} {S : zS} {K : zm → Prop} (R : Rc m S m0) (B : Bd S) (hp : p < 4) (hl : S.1 20 0 < 122) (kk : ∀ m', Rc m' (dwS S p) m0 → K m') : j_Table_drawFor (nI p) m K := by
  refine R.t14 (fun m1 R => ?_)
  have hk := B.b0 (S.1 20 0)
  unfold j_Wall_drawTile
  have e20 : (us S 14 0 p).1 20 0 = S.1 20 0 := rfl
  rw [R.g20, e20]
  refine w_isPlace (by omega) ⟨fun z => absurd z (by decide), fun _ => ?_⟩
  rw [R.g20, e20]
  refine ⟨?_, ?_⟩
  · exact pz_in (by omega) (by omega)
  · rw [nI_clamp (by omega), R.g0 (by omega)]
    unfold j_Wall_drawTile_L23
    rw [R.g20, e20, nI_1]
    refine R.t20 (fun m3 R => ?_)
    refine w_giveDrawn (p := p) (k := S.1 0 (S.1 20 0)) R (Bd.u (Bd.u B (show p ≤ 3 by omega)) ?_) rfl hp (by omega) (fun m4 R => R.t18 (v := 0) (fun m5 R => kk m5 ?_))
    · show S.1 20 0 + 1 ≤ 122
      omega
    · have R := ((R.x 24 0 0 (fun _ h => h)).x 25 0 (S.1 20 0 + 1) (fun _ h => h)).x 26 0 (S.1 0 (S.1 20 0) + 1) (fun _ h => h)
      refine Eq.mp (congrArg (fun T => Rc m5 T m0) ?_) R
      unfold dwS gvS
      refine Prod.ext ?_ rfl
      funext a j
      simp only [us_1]
      by_cases h0 : a = 14
      · subst h0; simp
      by_cases h1 : a = 20
      · subst h1; simp
      by_cases h2 : a = 21
      · subst h2; simp
      by_cases h3 : a = 1
      · subst h3; simp
      by_cases h4 : a = 8
      · subst h4; simp
      by_cases h5 : a = 11
      · subst h5; simp
      by_cases h6 : a = 18
      · subst h6; simp
      by_cases h7 : a = 24
      · subst h7; simp
      by_cases h8 : a = 25
      · subst h8; simp
      by_cases h9 : a = 26
      · subst h9; simp
      simp [h0, h1, h2, h3, h4, h5, h6, h7, h8, h9]
