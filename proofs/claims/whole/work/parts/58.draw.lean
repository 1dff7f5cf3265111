/-! A TILE COMES TO A PLAYER -/
theorem us_id (S : zS) (a i : Nat) : us S a i (S.1 a i) = S := by
  refine Prod.ext ?_ rfl
  funext b j
  rw [us_1]
  split
  · rename_i h; rw [h.1, h.2]
  · rfl
theorem Rc.t21' {m m0 : zm} {S : zS} (R : Rc m S m0) {v : Nat} {G : zm → Prop} (k_ : ∀ m', Rc m' (us S 21 0 (v + 1)) m0 → G m') : ∀ m', m' = zm_wI m 0 9 (nI v) → G m' := fun m' h => k_ m' (R.w 21 0 (v + 1) h rfl (by omega) rfl rfl (nI_pred v).symm)
theorem Rc.t21n {m m0 : zm} {S : zS} (R : Rc m S m0) {G : zm → Prop} (k_ : ∀ m', Rc m' (us S 21 0 0) m0 → G m') : ∀ m', m' = zm_wI m 0 9 (-1) → G m' := fun m' h => k_ m' (R.w 21 0 0 h rfl (by omega) rfl rfl (by decide))
theorem Rr.t26' {m m0 : zm} {S : zS} (R : Rr m S m0) {v : Nat} {G : zm → Prop} (k_ : ∀ m', Rr m' (us S 26 0 (v + 1)) m0 → G m') : ∀ m', m' = zm_wI m 33 18 (nI v) → G m' := fun m' h => k_ m' (R.w 26 0 (v + 1) h rfl (by omega) rfl rfl (nI_pred v).symm)
theorem Rr.t26n {m m0 : zm} {S : zS} (R : Rr m S m0) {G : zm → Prop} (k_ : ∀ m', Rr m' (us S 26 0 0) m0 → G m') : ∀ m', m' = zm_wI m 33 18 (-1) → G m' := fun m' h => k_ m' (R.w 26 0 0 h rfl (by omega) rfl rfl (by decide))
theorem Rr.t28' {m m0 : zm} {S : zS} (R : Rr m S m0) {v : Nat} {G : zm → Prop} (k_ : ∀ m', Rr m' (us S 28 0 (v + 1)) m0 → G m') : ∀ m', m' = zm_wI m 33 23 (nI v) → G m' := fun m' h => k_ m' (R.w 28 0 (v + 1) h rfl (by omega) rfl rfl (nI_pred v).symm)
theorem Rr.t28n {m m0 : zm} {S : zS} (R : Rr m S m0) {G : zm → Prop} (k_ : ∀ m', Rr m' (us S 28 0 0) m0 → G m') : ∀ m', m' = zm_wI m 33 23 (-1) → G m' := fun m' h => k_ m' (R.w 28 0 0 h rfl (by omega) rfl rfl (by decide))
theorem w_forget {p : Nat} {m m0 : zm} {S : zS} {K : zm → Prop} (R : Rc m S m0) (B : Bd S) (hp : p < 4) (k : ∀ m', Rc m' (us S 8 p (if S.1 6 p = 0 then 0 else S.1 8 p)) m0 → K m') : j_Player_forgetMissed (13 + 5 * p) m K := by
  have b := B.b6 p
  unfold j_Player_forgetMissed
  rw [R.g6 hp, pz_0 (by omega)]
  refine ⟨fun h => ?_, fun h => R.t8 hp (v := 0) (fun m R => k m ?_)⟩
  · refine k m ?_
    rw [if_neg h, us_id]
    exact R
  · rw [if_pos h]; exact R
/-- p gets k: behind it rep says whether it is a replacement -/
def gvS (S : zS) (p k rep : Nat) : zS := us (us (us (us (us (us (us (us S 14 0 p) 21 0 (k + 1)) 1 (34 * p + k) (S.1 1 (34 * p + k) + 1)) 8 p (if S.1 6 p = 0 then 0 else S.1 8 p)) 11 0 1) 18 0 rep) 24 0 rep) 26 0 (k + 1)
theorem w_giveDrawn {p k : Nat} {m m0 : zm} {S : zS} {K : zm → Prop} (R : Rc m S m0) (B : Bd S) (h14 : S.1 14 0 = p) (hp : p < 4) (hk : k < 34) (kk : ∀ m', Rc m' (us (us (us (us S 21 0 (k + 1)) 1 (34 * p + k) (S.1 1 (34 * p + k) + 1)) 8 p (if S.1 6 p = 0 then 0 else S.1 8 p)) 11 0 1) m0 → K m') : j_Table_giveDrawn (nI k) m K := by
  refine R.t21' (fun m1 R => ?_)
  have w1 : m1.1 0 8 = nI p := by rw [R.g14]; exact congrArg nI h14
  rw [w1, nI_clamp (by omega), nI_clamp (by omega)]
  refine ⟨pz_in hp (by omega), pz_in hk (by omega), pz_in hk (by omega), ?_⟩
  rw [R.g1 hp hk, nI_1]
  refine R.t1 hp hk (fun m3 R => ?_)
  have w3 : m3.1 0 8 = nI p := by rw [R.g14]; exact congrArg nI h14
  rw [w3, nI_clamp (by omega)]
  refine ⟨pz_in hp (by omega), ?_⟩
  have b6 := B.b6 p
  unfold j_Player_forgetMissed
  rw [R.g6 hp, show (us (us S 21 0 (k + 1)) 1 (34 * p + k) ((us S 21 0 (k + 1)).1 1 (34 * p + k) + 1)).1 6 p = S.1 6 p from rfl, pz_0 (by omega)]
  refine ⟨fun h => ?_, fun h => R.t8 hp (v := 0) (fun m R => R.t11 (v := 1) (fun m R => kk m ?_))⟩
  · refine R.t11 (v := 1) (fun m R => kk m ?_)
    rw [if_neg h, show S.1 8 p = (us (us S 21 0 (k + 1)) 1 (34 * p + k) (S.1 1 (34 * p + k) + 1)).1 8 p from rfl, us_id]
    exact R
  · rw [if_pos h]; exact R
/-- p draws from the wall -/
def dwS (S : zS) (p : Nat) : zS := gvS (us (us S 20 0 (S.1 20 0 + 1)) 25 0 (S.1 20 0 + 1)) p (S.1 0 (S.1 20 0)) 0
theorem w_drawFor {p : Nat} {m m0 : zm} {S : zS} {K : zm → Prop} (R : Rc m S m0) (B : Bd S) (hp : p < 4) (hl : S.1 20 0 < 122) (kk : ∀ m', Rc m' (dwS S p) m0 → K m') : j_Table_drawFor (nI p) m K := by
  refine R.t14 (fun m1 R => ?_)
  have hk := B.b0 (S.1 20 0)
  unfold j_Wall_drawTile
  have e20 : (us S 14 0 p).1 20 0 = S.1 20 0 := rfl
  rw [R.g20, e20]
  refine w_isPlace (by omega) ⟨fun z => absurd z (by decide), fun _ => ?_⟩
  rw [R.g20, e20]
  refine ⟨?_, ?_⟩
  · exact pz_in (by omega) (by omega)
  · rw [nI_clamp (by omega), R.g0 (by omega)]
    unfold j_Wall_drawTile_L23
    rw [R.g20, e20, nI_1]
    refine R.t20 (fun m3 R => ?_)
    refine w_giveDrawn (p := p) (k := S.1 0 (S.1 20 0)) R (Bd.u (Bd.u B (show p ≤ 3 by omega)) ?_) rfl hp (by omega) (fun m4 R => R.t18 (v := 0) (fun m5 R => kk m5 ?_))
    · show S.1 20 0 + 1 ≤ 122
      omega
    · have R := ((R.x 24 0 0 (fun _ h => h)).x 25 0 (S.1 20 0 + 1) (fun _ h => h)).x 26 0 (S.1 0 (S.1 20 0) + 1) (fun _ h => h)
      refine Eq.mp (congrArg (fun T => Rc m5 T m0) ?_) R
      unfold dwS gvS
      refine Prod.ext ?_ rfl
      funext a j
      simp only [us_1]
      by_cases h0 : a = 14
      · subst h0; simp
      by_cases h1 : a = 20
      · subst h1; simp
      by_cases h2 : a = 21
      · subst h2; simp
      by_cases h3 : a = 1
      · subst h3; simp
      by_cases h4 : a = 8
      · subst h4; simp
      by_cases h5 : a = 11
      · subst h5; simp
      by_cases h6 : a = 18
      · subst h6; simp
      by_cases h7 : a = 24
      · subst h7; simp
      by_cases h8 : a = 25
      · subst h8; simp
      by_cases h9 : a = 26
      · subst h9; simp
      simp [h0, h1, h2, h3, h4, h5, h6, h7, h8, h9]
theorem w_take {p k rep : Nat} {m m0 : zm} {S : zS} {K : zm → Prop} (R : Rr m S m0) (B : Bd S) (hp : p < 4) (hk : k < 34) (hr : rep ≤ 1) (kk : ∀ m', Rr m' (gvS S p k rep) m0 → K m') : j_Model_take (nI p) (nI k) (nI rep) m K := by
  have b6 := B.b6 p
  have b8 := B.b8 p
  have hb : zm_isB (nI rep) := by
    rcases (show rep = 0 ∨ rep = 1 by omega) with e | e <;> rw [e]
    · exact Or.inl rfl
    · exact Or.inr rfl
  unfold j_Model_take
  rw [pz_34, nI_clamp (by omega), nI_clamp (by omega)]
  refine ⟨pz_in (by omega) (by omega), pz_in (by omega) (by omega), ?_⟩
  rw [R.g1 hp hk, nI_1]
  refine R.t1 hp hk (fun m1 R => R.t14 (fun m2 R => R.t11 (v := 1) (fun m3 R => R.t26' (fun m4 R => ⟨hb, R.t24 (fun m5 R => ⟨pz_in hp (by omega), ?_⟩)⟩))))
  have fin : ∀ m6 v, v = (if S.1 6 p = 0 then 0 else S.1 8 p) → Rr m6 (us (us (us (us (us (us S 1 (34 * p + k) (S.1 1 (34 * p + k) + 1)) 14 0 p) 11 0 1) 26 0 (k + 1)) 24 0 rep) 8 p v) m0 → K m6 := by
    intro m6 v hv R
    subst hv
    refine kk m6 ?_
    have R := (R.x 21 0 (k + 1) (fun _ h => h)).x 18 0 rep (fun _ h => h)
    refine Eq.mp (congrArg (fun T => Rr m6 T m0) ?_) R
    unfold gvS
    refine Prod.ext ?_ rfl
    funext a j
    simp only [us_1]
    by_cases h0 : a = 14
    · subst h0; simp
    by_cases h1 : a = 21
    · subst h1; simp
    by_cases h2 : a = 1
    · subst h2; simp
    by_cases h3 : a = 8
    · subst h3; simp
    by_cases h4 : a = 11
    · subst h4; simp
    by_cases h5 : a = 18
    · subst h5; simp
    by_cases h6 : a = 24
    · subst h6; simp
    by_cases h7 : a = 26
    · subst h7; simp
    simp [h0, h1, h2, h3, h4, h5, h6, h7]
  have g8 : m5.1 44 p = nI (S.1 8 p) := R.g8 hp
  have g6 : m5.1 42 p = nI (S.1 6 p) := R.g6 hp
  rw [g8, g6, pz_0 (by omega), show (0 : Int32) = nI 0 from rfl, pz_le (by omega) (by omega)]
  have z0 : S.1 8 p = 0 ∨ S.1 6 p = 0 → j_Model_take_L62 (nI p) (nI k) (nI rep) K (nI p) m5 := by
    intro h
    unfold j_Model_take_L62 j_Model_take_L63
    rw [nI_clamp (by omega)]
    refine ⟨pz_in hp (by omega), Or.inl rfl, R.t8 hp (v := 0) (fun m6 R => fin m6 0 ?_ R)⟩
    split
    · rfl
    · omega
  refine ⟨fun h => z0 (Or.inl h), fun h => ⟨pz_in hp (by omega), fun h2 => z0 (Or.inr (by omega)), fun h2 => ?_⟩⟩
  unfold j_Model_take_L63
  rw [nI_clamp (by omega)]
  refine ⟨pz_in hp (by omega), Or.inr rfl, R.t8 hp (v := 1) (fun m6 R => fin m6 1 ?_ R)⟩
  rw [if_neg (by omega)]
  omega
theorem w_drawForR {p : Nat} {m m0 : zm} {S : zS} {K : zm → Prop} (R : Rr m S m0) (B : Bd S) (hp : p < 4) (hl : S.1 20 0 + S.1 17 0 < 122) (e : S.1 25 0 = S.1 20 0) (kk : ∀ m', Rr m' (dwS S p) m0 → K m') : j_Model_drawFor (nI p) m K := by
  have hk := B.b0 (S.1 20 0)
  refine w_left R (by omega) e ?_
  have hl2 : 0 < lft S ∧ lft S ≤ 122 := by unfold lft; omega
  rw [pz_0 (by omega)]
  refine ⟨fun _ => ?_, fun z => by omega⟩
  rw [R.g25, e, nI_1]
  refine R.t25 (fun m3 R => ?_)
  rw [R.g25, show (us S 25 0 (S.1 20 0 + 1)).1 25 0 = S.1 20 0 + 1 from rfl, nI_pred, nI_clamp (by omega), R.g0 (by omega)]
  refine ⟨pz_in (by omega) (by omega), ?_⟩
  refine w_take (rep := 0) R (B.u (show S.1 20 0 + 1 ≤ 122 by omega)) hp (show S.1 0 (S.1 20 0) < 34 by omega) (by omega) (fun m4 R => kk m4 ?_)
  have R := R.x 20 0 (S.1 20 0 + 1) (fun _ h => h)
  refine Eq.mp (congrArg (fun T => Rr m4 T m0) ?_) R
  unfold dwS gvS
  refine Prod.ext ?_ rfl
  funext a j
  simp only [us_1]
  by_cases h0 : a = 14
  · subst h0; simp
  by_cases h1 : a = 20
  · subst h1; simp
  by_cases h2 : a = 21
  · subst h2; simp
  by_cases h3 : a = 1
  · subst h3; simp
  by_cases h4 : a = 8
  · subst h4; simp
  by_cases h5 : a = 11
  · subst h5; simp
  by_cases h6 : a = 18
  · subst h6; simp
  by_cases h7 : a = 24
  · subst h7; simp
  by_cases h8 : a = 25
  · subst h8; simp
  by_cases h9 : a = 26
  · subst h9; simp
  simp [h0, h1, h2, h3, h4, h5, h6, h7, h8, h9]
/-! how hands change -/
def upd_ (c : Nat → Nat) (k v : Nat) : Nat → Nat := fun j => if j = k then v else c j
theorem csum_upd {c : Nat → Nat} {k v : Nat} : ∀ n, csum (upd_ c k v) n + (if k < n then c k else 0) = csum c n + (if k < n then v else 0)
  | 0 => by rw [if_neg (by omega), if_neg (by omega)]; rfl
  | n + 1 => by
    have ih := csum_upd (c := c) (k := k) (v := v) n
    rw [csum, csum]
    have e : upd_ c k v n = if n = k then v else c n := rfl
    rw [e]
    by_cases h : n = k
    · subst h
      rw [if_neg (by omega), if_neg (by omega)] at ih
      rw [if_pos rfl, if_pos (by omega), if_pos (by omega)]
      omega
    · rw [if_neg h]
      by_cases h2 : k < n
      · rw [if_pos h2, if_pos h2] at ih
        rw [if_pos (by omega), if_pos (by omega)]
        omega
      · rw [if_neg h2, if_neg h2] at ih
        rw [if_neg (by omega), if_neg (by omega)]
        omega
theorem own_upd {c d : Nat → Nat} {w k v j : Nat} : own_ (upd_ c k v) d w j + (if j = k then c k else 0) = own_ c d w j + (if j = k then v else 0) := by
  unfold own_ upd_
  by_cases h : j = k
  · subst h
    rw [if_pos rfl, if_pos rfl, if_pos rfl]; omega
  · rw [if_neg h, if_neg h, if_neg h]
theorem cf_1 (S : zS) {p k v : Nat} (hk : k < 34) (r : Nat) : cf (us S 1 (34 * p + k) v) r = if r = p then upd_ (cf S p) k v else cf S r := by
  funext j
  unfold cf
  rw [us_1]
  by_cases h : r = p
  · subst h
    rw [if_pos rfl]
    unfold upd_
    by_cases hj : j < 34
    · rw [if_pos hj]
      by_cases e : j = k
      · rw [if_pos (by omega), if_pos e]
      · rw [if_neg (by omega), if_neg e]; exact (if_pos hj).symm
    · rw [if_neg hj, if_neg (by omega)]; exact (if_neg hj).symm
  · rw [if_neg h]
    by_cases hj : j < 34
    · rw [if_pos hj, if_pos hj, if_neg (by omega)]
    · rw [if_neg hj, if_neg hj]
theorem cf_at {S : zS} {p k : Nat} (hk : k < 34) : cf S p k = S.1 1 (34 * p + k) := if_pos hk
theorem tot4 {S T : zS} {p k : Nat} {x y : Nat} (hp : p < 4) (h : oS T p k + x = oS S p k + y) (h2 : ∀ r, r < 4 → ¬ r = p → oS T r k = oS S r k) : tot T k + x = tot S k + y := by
  unfold tot
  have a0 := h2 0 (by omega)
  have a1 := h2 1 (by omega)
  have a2 := h2 2 (by omega)
  have a3 := h2 3 (by omega)
  rcases (show p = 0 ∨ p = 1 ∨ p = 2 ∨ p = 3 by omega) with e | e | e | e <;> subst e <;> omega
theorem wnf_s {f : Nat → Nat} {k n : Nat} : wnf f k (n + 1) = wnf f k n + (if f n = k then 1 else 0) := rfl
theorem wnf_m {f : Nat → Nat} {k : Nat} : ∀ {n n'}, n ≤ n' → wnf f k n ≤ wnf f k n' := by
  intro n n' h
  induction n' with
  | zero => rw [show n = 0 by omega]; exact Nat.le_refl _
  | succ n' ih =>
    by_cases e : n = n' + 1
    · rw [e]; exact Nat.le_refl _
    · have := ih (by omega)
      rw [wnf_s]; omega
/-- nobody is to move: before a draw -/
def Wn (S : zS) : Prop := (∀ p, p < 4 → ssm S p = 13) ∧ (∀ k, k < 34 → tot S k + rst S k ≤ 4) ∧ rsm S ≤ S.1 20 0 - 52 + S.1 17 0 + msm S
/-- all that doesn't ask whose turn it is -/
def Wg (S : zS) : Prop := Bd S ∧ Mk S ∧ WfW S ∧ WfR S ∧ (∀ k, k < 34 → wn S k 136 = 4) ∧ 52 ≤ S.1 20 0 ∧ S.1 20 0 + S.1 17 0 ≤ 122 ∧ S.1 25 0 = S.1 20 0 ∧ ∀ p, p < 4 → S.1 9 p = 0
theorem gv_1 (S : zS) (p k rep a j : Nat) : (gvS S p k rep).1 a j = if a = 26 ∧ j = 0 then k + 1 else if a = 24 ∧ j = 0 then rep else if a = 18 ∧ j = 0 then rep else if a = 11 ∧ j = 0 then 1 else if a = 8 ∧ j = p then (if S.1 6 p = 0 then 0 else S.1 8 p) else if a = 1 ∧ j = 34 * p + k then S.1 1 (34 * p + k) + 1 else if a = 21 ∧ j = 0 then k + 1 else if a = 14 ∧ j = 0 then p else S.1 a j := rfl
theorem gv_f (S : zS) (p k rep a : Nat) (h : ¬ (a = 26 ∨ a = 24 ∨ a = 18 ∨ a = 11 ∨ a = 8 ∨ a = 1 ∨ a = 21 ∨ a = 14)) : (gvS S p k rep).1 a = S.1 a := by
  funext j
  rw [gv_1, if_neg (by omega), if_neg (by omega), if_neg (by omega), if_neg (by omega), if_neg (by omega), if_neg (by omega), if_neg (by omega), if_neg (by omega)]
theorem gv_cf (S : zS) {p k rep : Nat} (hk : k < 34) (r : Nat) : cf (gvS S p k rep) r = if r = p then upd_ (cf S p) k (cf S p k + 1) else cf S r := by
  have e : cf (gvS S p k rep) r = cf (us S 1 (34 * p + k) (S.1 1 (34 * p + k) + 1)) r := by
    funext j
    unfold cf
    split
    · rw [gv_1, us_1, if_neg (by omega), if_neg (by omega), if_neg (by omega), if_neg (by omega), if_neg (by omega)]
      split
      · rfl
      · rw [if_neg (by omega), if_neg (by omega)]
    · rfl
  rw [e, cf_1 S hk, cf_at hk]
theorem cls_c {S T : zS} {p : Nat} (h2 : T.1 2 = S.1 2) (h3 : T.1 3 = S.1 3) : cls T p = cls S p := by
  unfold cls mf
  rw [h2, h3]
/-- p draws, and has the turn -/
theorem Wf_gv {S : zS} {p k rep : Nat} (G : Wg S) (s13 : ∀ p, p < 4 → ssm S p = 13) (ht : ∀ j, j < 34 → tot S j + (if j = k then 1 else 0) + rst S j ≤ 4) (hrv : rsm S + 1 ≤ S.1 20 0 - 52 + S.1 17 0 + msm S) (h28 : S.1 28 0 = 0) (hp : p < 4) (hk : k < 34) (hr : rep ≤ 1) : Wf (gvS S p k rep) := by
  obtain ⟨B, M, w, r, wc, p1, p2, p3, o⟩ := G
  have eq : ∀ a, ¬ (a = 26 ∨ a = 24 ∨ a = 18 ∨ a = 11 ∨ a = 8 ∨ a = 1 ∨ a = 21 ∨ a = 14) → (gvS S p k rep).1 a = S.1 a := fun a h => gv_f S p k rep a h
  have c1 := cf_at (S := S) (p := p) hk
  have own : ∀ j, j < 34 → oS (gvS S p k rep) p j + (if j = k then cf S p k else 0) = oS S p j + (if j = k then cf S p k + 1 else 0) := by
    intro j hj
    unfold oS
    rw [gv_cf S hk, if_pos rfl, eq 2 (by omega)]
    have : mf (gvS S p k rep) p = mf S p := by unfold mf; rw [eq 3 (by omega)]
    rw [this]
    exact own_upd
  have own' : ∀ r j, ¬ r = p → oS (gvS S p k rep) r j = oS S r j := by
    intro r j hr
    unfold oS
    rw [gv_cf S hk, if_neg hr, eq 2 (by omega)]
    have : mf (gvS S p k rep) r = mf S r := by unfold mf; rw [eq 3 (by omega)]
    rw [this]
  have tt : ∀ j, j < 34 → tot (gvS S p k rep) j = tot S j + (if j = k then 1 else 0) := by
    intro j hj
    have := tot4 hp (own j hj) (fun r _ hr => own' r j hr)
    by_cases e : j = k
    · rw [if_pos e] at *; rw [if_pos e] at this; omega
    · rw [if_neg e] at *; rw [if_neg e] at this; omega
  have k4 : cf S p k + 1 ≤ 4 := by
    have h1 := ht k hk
    rw [if_pos rfl] at h1
    have h2 : cf S p k ≤ tot S k := by
      have h3 : cf S p k ≤ oS S p k := by unfold oS own_; omega
      have h4 : oS S p k ≤ tot S k := by
        unfold tot
        rcases (show p = 0 ∨ p = 1 ∨ p = 2 ∨ p = 3 by omega) with e | e | e | e <;> subst e <;> omega
      omega
    omega
  have e11 : (gvS S p k rep).1 11 0 = 1 := rfl
  have e14 : (gvS S p k rep).1 14 0 = p := rfl
  have ss : ∀ r, r < 4 → ssm (gvS S p k rep) r = if r = p then 14 else 13 := by
    intro r hr
    unfold ssm
    rw [eq 2 (by omega), gv_cf S hk]
    have h1 := s13 r hr
    unfold ssm at h1
    by_cases e : r = p
    · subst e
      rw [if_pos rfl, if_pos rfl]
      have := csum_upd (c := cf S r) (k := k) (v := cf S r k + 1) 34
      rw [if_pos hk, if_pos hk] at this
      omega
    · rw [if_neg e, if_neg e]; exact h1
  refine ⟨?_, M.c (eq 3 (by omega)) (eq 22 (by omega)) (eq 23 (by omega)), w.c rfl rfl rfl, r.c (eq 2 (by omega)) (eq 3 (by omega)) (eq 4 (by omega)) (eq 5 (by omega)) (eq 6 (by omega)) (eq 7 (by omega)) rfl, ⟨fun j hj => ?_, by rw [eq 20 (by omega)]; exact p1, by rw [eq 20 (by omega), eq 17 (by omega)]; exact p2, fun _ => by rw [eq 25 (by omega), eq 20 (by omega)]; exact p3, fun z => by rw [e11] at z; omega⟩, fun _ r hr => ?_, fun _ r hr => ?_, fun _ => ⟨fun r hr => ?_, fun j hj => ?_, ?_, rfl, fun _ => rfl, ?_⟩, fun z => by rw [e11] at z; omega⟩
  · unfold gvS
    refine Bd.u (Bd.u (Bd.u (Bd.u (Bd.u (Bd.u (Bd.u (Bd.u B ?_) ?_) ?_) ?_) ?_) ?_) ?_) ?_
    · show p ≤ 3; omega
    · show k + 1 ≤ 34; omega
    · show S.1 1 (34 * p + k) + 1 ≤ 4; omega
    · show (if S.1 6 p = 0 then 0 else S.1 8 p) ≤ 1
      have := B.b8 p
      split <;> omega
    · show 1 ≤ 4; omega
    · exact hr
    · exact hr
    · show k + 1 ≤ 34; omega
  · unfold wn
    rw [eq 0 (by omega)]
    exact wc j hj
  · have := ss r hr
    split at this <;> omega
  · rw [eq 9 (by omega)]; exact o r hr
  · rw [e14]; exact ss r hr
  · have h1 := ht j hj
    rw [tt j hj]
    have : rst (gvS S p k rep) j = rst S j := by unfold rst wn; rw [eq 0 (by omega), eq 17 (by omega), eq 20 (by omega)]
    rw [this]
    exact h1
  · unfold rsm msm
    rw [eq 4 (by omega), eq 2 (by omega), eq 20 (by omega), eq 17 (by omega)]
    exact hrv
  · rw [eq 28 (by omega)]; exact h28
