/-! QUADS IN A TURN -/
theorem am_W {S S1 : zS} {p k f n : Nat} {ind : Nat → Nat} (B : Bd S) (M : Mk S) (w : WfW S) (r : WfR S) (wc : ∀ k, k < 34 → wn S k 136 = 4) (p1 : 52 ≤ S.1 20 0) (p2 : S.1 20 0 + S.1 17 0 ≤ 122) (p3 : S.1 25 0 = S.1 20 0) (o : ∀ p, p < 4 → S.1 9 p = 0) (hp : p < 4) (h6 : S.1 6 p = 0) (hw : S.1 2 p < 4) (hk : k < 34) (hf : f < 4) (hr : f = 0 → k < 27 ∧ k % 9 ≤ 6)
    (B1 : Bd S1) (e1 : ∀ a, ¬ a = 1 → S1.1 a = S.1 a) (e2 : S1.2 = S.2) (c0 : ∀ r, r < 4 → ¬ r = p → cf S1 r = cf S r) (c1 : ∀ j, j < 34 → cf S1 p j + ind j = cf S p j) (cs : csum (cf S1 p) 34 + n = csum (cf S p) 34) (ci : ∀ j, j < 34 → cin_ (4 * k + f) j = ind j) :
    Wg (amS S1 p k f) ∧ (∀ j, j < 34 → tot (amS S1 p k f) j = tot S j) ∧ (∀ r, r < 4 → ssm (amS S1 p k f) r + (if r = p then n else 0) = ssm S r + (if r = p then 3 else 0)) ∧ rsm (amS S1 p k f) = rsm S ∧ msm (amS S1 p k f) = msm S + 1 ∧ (∀ j, rst (amS S1 p k f) j = rst S j) := by
  have hw1 : S1.1 2 p < 4 := by rw [e1 2 (by omega)]; exact hw
  have m1 : ∀ a, ¬ (a = 3 ∨ a = 2 ∨ a = 22 ∨ a = 23 ∨ a = 1) → (amS S1 p k f).1 a = S.1 a := fun a h => by rw [am_f S1 p k f a (by omega), e1 a (by omega)]
  have y2 : ∀ r, (amS S1 p k f).1 2 r = if r = p then S.1 2 p + 1 else S.1 2 r := fun r => by rw [am_2, e1 2 (by omega)]
  have M1 : Mk S1 := M.c (e1 3 (by omega)) (e1 22 (by omega)) (e1 23 (by omega))
  have yy : (amS S1 p k f).2 = S.2 := e2
  have ow : ∀ r j, r < 4 → j < 34 → oS S1 r j + (if r = p then ind j else 0) = oS S r j := fun r j hr hj => by
    unfold oS own_
    rw [mf_c (e1 3 (by omega)), e1 2 (by omega)]
    by_cases q : r = p
    · subst q
      rw [if_pos rfl]
      have := c1 j hj
      omega
    · rw [if_neg q, c0 r hr q]; rfl
  refine ⟨⟨B1.am hf hk hw1, M1.am hf hr, w.c (by rw [yy]) (by rw [yy]) (by rw [yy]), fun r' hr' => ?_, fun j hj => ?_, ?_, ?_, ?_, fun q hq => ?_⟩, fun j hj => ?_, fun r' hr' => ?_, ?_, ?_, fun j => ?_⟩
  · obtain ⟨a1, a2, a3⟩ := r r' hr'
    refine ⟨?_, fun z => ?_, ?_⟩
    · rw [df_c (m1 4 (by omega)) (m1 5 (by omega)), yy]; exact a1
    · rw [m1 6 (by omega)] at z
      have hne : ¬ r' = p := fun q => by rw [q] at z; exact z h6
      have := a2 z
      intro i hi
      rw [y2, if_neg hne] at hi
      have b2 := B.b2 r'
      have := this i hi
      unfold mf at this ⊢
      rw [am_3, e1 3 (by omega), if_neg (by omega)]
      exact this
    · rw [m1 7 (by omega), m1 6 (by omega)]; exact a3
  · unfold wn; rw [m1 0 (by omega)]; exact wc j hj
  · rw [m1 20 (by omega)]; exact p1
  · rw [m1 20 (by omega), m1 17 (by omega)]; exact p2
  · rw [m1 20 (by omega), m1 25 (by omega)]; exact p3
  · rw [m1 9 (by omega)]; exact o q hq
  · rw [am_tot S1 hp (fun q => by rw [e1 2 (by omega)]; exact B.b2 q) hw1, ci j hj]
    have := tot4 (S := S1) (T := S) (p := p) (k := j) (x := 0) (y := ind j) hp (by have := ow p j hp hj; rw [if_pos rfl] at this; omega) (fun r hr hne => by have := ow r j hr hj; rw [if_neg hne] at this; omega)
    omega
  · unfold ssm
    rw [y2, cf_c (am_f S1 p k f 1 (by omega))]
    by_cases q : r' = p
    · subst q
      rw [if_pos rfl, if_pos rfl, if_pos rfl]
      omega
    · rw [if_neg q, if_neg q, if_neg q, c0 r' hr' q]
  · unfold rsm; rw [m1 4 (by omega)]
  · unfold msm
    rw [y2, y2, y2, y2]
    rcases (show p = 0 ∨ p = 1 ∨ p = 2 ∨ p = 3 by omega) with e | e | e | e <;> subst e <;> simp <;> omega
  · unfold rst wn; rw [m1 0 (by omega), m1 17 (by omega), m1 20 (by omega)]
def adS (S : zS) (p k : Nat) : zS := us (us (us (us (us S 1 (34 * p + k) (S.1 1 (34 * p + k) - 1)) 21 0 (k + 1)) 15 0 1) 26 0 0) 27 0 k
theorem ad_f {S : zS} {p k a : Nat} (h : ¬ (a = 1 ∨ a = 21 ∨ a = 15 ∨ a = 26 ∨ a = 27)) : (adS S p k).1 a = S.1 a := by
  funext j
  unfold adS
  simp only [us_1]
  rw [if_neg (by omega), if_neg (by omega), if_neg (by omega), if_neg (by omega), if_neg (by omega)]
theorem ad_1 {S : zS} {p k : Nat} : (adS S p k).1 1 = (us S 1 (34 * p + k) (S.1 1 (34 * p + k) - 1)).1 1 := rfl
def qok (S : zS) : Prop := 0 < S.1 21 0 ∧ S.1 6 (S.1 14 0) = 0 ∧ S.1 17 0 < 4 ∧ 0 < lft S
theorem ad_W {S : zS} {k : Nat} (W : Wf S) (h11 : S.1 11 0 = 1) (hk : k < 34) (hc : ¬ S.1 1 (34 * S.1 14 0 + k) = 0) (ok : qok S) (hx : ∃ i, i < S.1 2 (S.1 14 0) ∧ mf S (S.1 14 0) i = 4 * k + 1) : Wd (adS S (S.1 14 0) k) := by
  obtain ⟨B, M, w, r, ⟨wc, p1, p2, p3, _⟩, _, o, w1, _⟩ := W
  obtain ⟨s, tt, rv, h26, h24, h28⟩ := w1 h11
  have b14 := B.b14 0
  have hp : S.1 14 0 < 4 := by omega
  have p3 := p3 (by omega)
  have b1 := B.b1 (34 * S.1 14 0 + k)
  have f : ∀ a, ¬ (a = 1 ∨ a = 21 ∨ a = 15 ∨ a = 26 ∨ a = 27) → (adS S (S.1 14 0) k).1 a = S.1 a := fun a h => ad_f h
  have ec := cf_at (S := S) (p := S.1 14 0) hk
  have c0 : ∀ r, ¬ r = S.1 14 0 → cf (adS S (S.1 14 0) k) r = cf S r := fun r h => by rw [cf_c ad_1, cf_1 S hk, if_neg h]
  have c1 : cf (adS S (S.1 14 0) k) (S.1 14 0) = upd_ (cf S (S.1 14 0)) k (S.1 1 (34 * S.1 14 0 + k) - 1) := by rw [cf_c ad_1, cf_dn hk]
  have et : til (adS S (S.1 14 0) k) = k := by show k + 1 - 1 = k; omega
  refine ⟨?_, M.c (f 3 (by omega)) (f 22 (by omega)) (f 23 (by omega)), w.c rfl rfl rfl, r.c (f 2 (by omega)) (f 3 (by omega)) (f 4 (by omega)) (f 5 (by omega)) (f 6 (by omega)) (f 7 (by omega)) rfl, fun j hj => ?_, by rw [f 20 (by omega)]; exact p1, by rw [f 20 (by omega), f 17 (by omega)]; exact p2, by rw [f 20 (by omega), f 25 (by omega)]; exact p3, fun q hq => ?_, fun j hj => ?_, ?_, ?_, ?_, fun z => ?_, fun _ => ⟨h28, ok.2.2.2, ok.2.2.1, ?_⟩⟩
  · unfold adS
    refine Bd.u (Bd.u (Bd.u (Bd.u (Bd.u B ?_) ?_) ?_) ?_) ?_
    · show S.1 1 (34 * S.1 14 0 + k) - 1 ≤ 4; omega
    · show k + 1 ≤ 34; omega
    · show 1 ≤ 1; omega
    · exact Nat.zero_le _
    · show k ≤ 33; omega
  · unfold wn; rw [f 0 (by omega)]; exact wc j hj
  · have h1 := s q hq
    unfold ssm at h1 ⊢
    rw [f 2 (by omega)]
    by_cases e : q = S.1 14 0
    · rw [if_pos e] at h1
      subst e
      rw [c1]
      have := csum_upd (c := cf S (S.1 14 0)) (k := k) (v := S.1 1 (34 * S.1 14 0 + k) - 1) 34
      rw [if_pos hk, if_pos hk] at this
      omega
    · rw [if_neg e] at h1
      rw [c0 q e]; exact h1
  · have h1 := tt j hj
    have e2 : rst (adS S (S.1 14 0) k) j = rst S j := by unfold rst wn; rw [f 0 (by omega), f 17 (by omega), f 20 (by omega)]
    have e3 := tot4 (S := S) (T := adS S (S.1 14 0) k) (p := S.1 14 0) (k := j) (x := if j = k then 1 else 0) (y := 0) hp (by
      unfold oS
      rw [c1, f 2 (by omega), mf_c (f 3 (by omega))]
      have := own_upd (c := cf S (S.1 14 0)) (d := mf S (S.1 14 0)) (w := S.1 2 (S.1 14 0)) (k := k) (v := S.1 1 (34 * S.1 14 0 + k) - 1) (j := j)
      by_cases e : j = k
      · rw [if_pos e] at *
        rw [if_pos e] at this
        omega
      · rw [if_neg e] at *
        rw [if_neg e] at this
        omega) (fun r _ h => by
      unfold oS
      rw [c0 r h, f 2 (by omega), mf_c (f 3 (by omega))])
    rw [et, e2]
    omega
  · have e4 : rsm (adS S (S.1 14 0) k) = rsm S := by unfold rsm; rw [f 4 (by omega)]
    have e5 : msm (adS S (S.1 14 0) k) = msm S := by unfold msm; rw [f 2 (by omega)]
    rw [e4, e5, f 20 (by omega), f 17 (by omega)]
    omega
  · show 0 < k + 1; omega
  · rw [et]; rfl
  · exact absurd z (by show ¬ 1 = 0; omega)
  · rw [et]; exact hx
theorem h_closed {S : zS} {k : Nat} (W : Wf S) (h11 : S.1 11 0 = 1) (hk : k < 34) (hc : S.1 1 (34 * S.1 14 0 + k) = 4) (ok : qok S) : Wf (cqS (amS (us S 1 (34 * S.1 14 0 + k) 0) (S.1 14 0) k 3) (S.1 14 0)) ∧ S.1 2 (S.1 14 0) < 4 ∧ Bd (amS (us S 1 (34 * S.1 14 0 + k) 0) (S.1 14 0) k 3) := by
  obtain ⟨B, M, w, r, ⟨wc, p1, p2, p3, _⟩, _, o, w1, _⟩ := W
  obtain ⟨s, tt, rv, h26, h24, h28⟩ := w1 h11
  have b14 := B.b14 0
  have hp : S.1 14 0 < 4 := by omega
  have p3 := p3 (by omega)
  have o := o (by omega)
  have ec := cf_at (S := S) (p := S.1 14 0) hk
  have hw : S.1 2 (S.1 14 0) < 4 := by
    have h1 := s (S.1 14 0) hp
    rw [if_pos rfl] at h1
    have h2 := csum_ge (R := cf S (S.1 14 0)) (n := 34) (k := k) hk
    unfold ssm at h1
    omega
  have am := am_W (S := S) (S1 := us S 1 (34 * S.1 14 0 + k) 0) (p := S.1 14 0) (k := k) (f := 3) (n := 4) (ind := fun j => if j = k then 4 else 0) B M w r wc p1 p2 p3 o hp ok.2.1 hw hk (by omega) (fun z => by omega) (B.u (Nat.zero_le _)) (fun a h => by
      funext j
      rw [us_1, if_neg (fun z => h z.1)]) rfl (fun r _ h => by rw [cf_1 S hk, if_neg h]) (fun j hj => by
      rw [cf_dn hk]
      unfold upd_
      by_cases q : j = k
      · rw [if_pos q, if_pos q, q]; omega
      · rw [if_neg q, if_neg q]; rfl) (by
      rw [cf_dn hk]
      have := csum_upd (c := cf S (S.1 14 0)) (k := k) (v := 0) 34
      rw [if_pos hk, if_pos hk] at this
      omega) (fun j hj => cin_3 k j)
  refine ⟨?_, hw, am.1.1⟩
  obtain ⟨G2, t2, s2, r2, m2, x2⟩ := am
  have e20 : (amS (us S 1 (34 * S.1 14 0 + k) 0) (S.1 14 0) k 3).1 20 0 = S.1 20 0 := rfl
  have e17 : (amS (us S 1 (34 * S.1 14 0 + k) 0) (S.1 14 0) k 3).1 17 0 = S.1 17 0 := rfl
  refine Wf_cq G2 ⟨fun q hq' => ?_, fun j hj => ?_, ?_⟩ h28 ?_ ok.2.2.1 hp
  · have h1 := s2 q hq'
    have h2 := s q hq'
    split at h1
    · rename_i q1; rw [if_pos q1] at h2; omega
    · rename_i q1; rw [if_neg q1] at h2; omega
  · rw [t2 j hj, x2]; exact tt j hj
  · rw [r2, m2, e20, e17]; omega
  · rw [e20, e17]
    have := ok.2.2.2
    unfold lft at this
    omega
theorem c_quad {k : Nat} {m m0 : zm} {S : zS} {K : Int32 → zm → Prop} (R : Rc m S m0) (W : Wf S) (h11 : S.1 11 0 = 1) (hk : k < 34) (kN : (¬ qok S ∨ (¬ S.1 1 (34 * S.1 14 0 + k) = 4 ∧ (S.1 1 (34 * S.1 14 0 + k) = 0 ∨ ¬ ∃ i, i < S.1 2 (S.1 14 0) ∧ mf S (S.1 14 0) i = 4 * k + 1))) → K (-1) m)
    (k4 : qok S → S.1 1 (34 * S.1 14 0 + k) = 4 → ∀ m', Rc m' (cqS (amS (us S 1 (34 * S.1 14 0 + k) 0) (S.1 14 0) k 3) (S.1 14 0)) m0 → K (m'.1 0 3) m')
    (kA : qok S → ¬ S.1 1 (34 * S.1 14 0 + k) = 4 → ¬ S.1 1 (34 * S.1 14 0 + k) = 0 → (∃ i, i < S.1 2 (S.1 14 0) ∧ mf S (S.1 14 0) i = 4 * k + 1) → ∀ m', Rc m' (us (adS S (S.1 14 0) k) 11 0 2) m0 → j_Table_offerClaims m' (fun r15 m14 => ((¬ r15 = 0 → (j_Table_quad_L153 (nI k) K m14)) ∧ (r15 = 0 → (j_Table_completeAddedQuad m14 (fun m16 => (j_Table_quad_L153 (nI k) K m16))))))) : j_Table_quad (nI k) m K := by
  have B := W.1
  have b14 := B.b14 0
  have hp : S.1 14 0 < 4 := by omega
  have b1 := B.b1 (34 * S.1 14 0 + k)
  have b6 := B.b6 (S.1 14 0)
  have b17 := B.b17 0
  have b21 := B.b21 0
  have p2 := W.2.2.2.2.1.2.2.1
  have hlf : lft S ≤ 122 := by unfold lft; omega
  unfold j_Table_quad
  rw [show (m.1 0 3 = 1) = (S.1 11 0 = 1) from ph_eq B R.g11 1 (by omega)]
  refine ⟨fun z => absurd h11 z, fun _ => w_isKind hk ⟨fun z => absurd z (by decide), fun _ => ?_⟩⟩
  rw [R.g21, propext (m1_v _ (by omega)).1]
  refine ⟨fun h21 => ?_, fun h => kN (Or.inl (fun ok => by have := ok.1; omega))⟩
  rw [R.g14, nI_clamp (by omega)]
  refine ⟨pz_in hp (by omega), fun y hy => ?_⟩
  subst hy
  rw [R.g6 hp, pz_0 (by omega), R.g17, show ((4 : Int32) ≤ nI (S.1 17 0)) = (4 ≤ S.1 17 0) from pz_le (a := 4) (by omega) (by omega)]
  refine ⟨fun h => kN (Or.inl (fun ok => h ok.2.1)), fun h6 => ⟨fun h => kN (Or.inl (fun ok => by have := ok.2.2.1; omega)), fun h17 => w_countLeft R p2 ?_⟩⟩
  rw [show ((1 : Int32) ≤ nI (lft S)) = (1 ≤ lft S) from pz_le (a := 1) (by omega) (by omega), nI_clamp (by omega), R.g1 hp hk, show (nI (S.1 1 (34 * S.1 14 0 + k)) = 4) = (S.1 1 (34 * S.1 14 0 + k) = 4) from pz_eq (b := 4) (by omega) (by omega), pz_0 (by omega)]
  refine ⟨fun hl => ?_, fun h => kN (Or.inl (fun ok => by have := ok.2.2.2; omega))⟩
  have ok : qok S := ⟨by omega, h6, by omega, by omega⟩
  refine ⟨pz_in hk (by omega), fun h4 => ⟨pz_in hk (by omega), fun h0 => kN (Or.inr ⟨h4, Or.inl h0⟩), fun h0 => ?_⟩, fun h4 => ⟨pz_in hk (by omega), R.t1 hp hk (v := 0) (fun m1 R => ?_)⟩⟩
  · refine w_hasOpen R B hp hk (fun hx => ⟨fun _ => ?_, fun z => absurd z (by decide)⟩) (fun hx => ⟨fun z => absurd rfl z, fun _ => kN (Or.inr ⟨h4, Or.inr hx⟩)⟩)
    rw [R.g1 hp hk, nI_dec (by omega)]
    refine ⟨pz_in hk (by omega), pz_in hk (by omega), R.t1 hp hk (fun m1 R => R.t21' (fun m2 R => R.t15 (v := 1) (fun m3 R => R.t11 (v := 2) (fun m4 R => kA ok h4 h0 hx m4 ?_))))⟩
    have R := (R.x 26 0 0 (fun _ h => h)).x 27 0 k (fun _ h => h)
    rw [us_cm _ (by omega : ¬ (11 = 26 ∧ 0 = 0)), us_cm _ (by omega : ¬ (11 = 27 ∧ 0 = 0))] at R
    exact R
  · obtain ⟨_, hw, Ba⟩ := h_closed W h11 hk h4 ok
    refine w_addMeld (f := 3) R hp hw (fun m2 R => w_completeQuad R Ba hp rfl ok.2.2.1 (fun m3 R => k4 ok h4 m3 R))
theorem r_quad {k : Nat} {m m0 : zm} {S : zS} {K : Int32 → zm → Prop} (R : Rr m S m0) (W : Wf S) (h11 : S.1 11 0 = 1) (hk : k < 34) (kN : (¬ qok S ∨ (¬ S.1 1 (34 * S.1 14 0 + k) = 4 ∧ (S.1 1 (34 * S.1 14 0 + k) = 0 ∨ ¬ ∃ i, i < S.1 2 (S.1 14 0) ∧ mf S (S.1 14 0) i = 4 * k + 1))) → K (-1) m)
    (k4 : qok S → S.1 1 (34 * S.1 14 0 + k) = 4 → ∀ m', Rr m' (cqS (amS (us S 1 (34 * S.1 14 0 + k) 0) (S.1 14 0) k 3) (S.1 14 0)) m0 → K (m'.1 33 3) m')
    (kA : qok S → ¬ S.1 1 (34 * S.1 14 0 + k) = 4 → ¬ S.1 1 (34 * S.1 14 0 + k) = 0 → (∃ i, i < S.1 2 (S.1 14 0) ∧ mf S (S.1 14 0) i = 4 * k + 1) → ∀ m', Rr m' (adS S (S.1 14 0) k) m0 → ∃ n, j_Model_ask_L15 (nI k) (nI 1) (fun m18 => j_Model_quad_L160 (nI k) K m18) n 0 0 m') : j_Model_quad (nI k) m K := by
  have B := W.1
  have M := W.2.1
  have b14 := B.b14 0
  have hp : S.1 14 0 < 4 := by omega
  have b1 := B.b1 (34 * S.1 14 0 + k)
  have b2 := B.b2 (S.1 14 0)
  have b6 := B.b6 (S.1 14 0)
  have b17 := B.b17 0
  have b21 := B.b21 0
  have p2 := W.2.2.2.2.1.2.2.1
  have p3 := W.2.2.2.2.1.2.2.2.1 (by omega)
  have h26 := (W.2.2.2.2.2.2.2.1 h11).2.2.2.1
  have hlf : lft S ≤ 122 := by unfold lft; omega
  unfold j_Model_quad
  refine w_isTurn R B (fun _ => ⟨fun z => absurd z (by decide), fun _ => ?_⟩) (fun z => absurd h11 z)
  rw [show ((33 : Int32) < nI k) = (33 < k) from pz_lt (a := 33) (by omega) (by omega), R.g26, h26, propext (m1_v _ (by omega)).2, R.g14, nI_clamp (by omega), R.g6 hp, show ((0 : Int32) < nI (S.1 6 (S.1 14 0))) = (0 < S.1 6 (S.1 14 0)) from pz_lt (a := 0) (by omega) (by omega), R.g17, show (nI (S.1 17 0) = 4) = (S.1 17 0 = 4) from pz_eq (b := 4) (by omega) (by omega)]
  refine ⟨fun z => absurd z (nI_n0 (by omega)), fun _ => ⟨fun z => by omega, fun _ => ⟨fun h => kN (Or.inl (fun ok => by have := ok.1; omega)), fun h21 => ⟨pz_in hp (by omega), fun h => kN (Or.inl (fun ok => by have := ok.2.1; omega)), fun h6 => ⟨fun h => kN (Or.inl (fun ok => by have := ok.2.2.1; omega)), fun h17 => w_left R p2 p3 ?_⟩⟩⟩⟩⟩
  rw [show ((1 : Int32) ≤ nI (lft S)) = (1 ≤ lft S) from pz_le (a := 1) (by omega) (by omega), R.g14, pz_34, nI_clamp (by omega), R.g1 hp hk]
  refine ⟨fun hl => ⟨pz_in (by omega) (by omega), fun y hy => ?_⟩, fun h => kN (Or.inl (fun ok => by have := ok.2.2.2; omega))⟩
  subst hy
  have ok : qok S := ⟨by omega, by omega, by omega, by omega⟩
  rw [show (nI (S.1 1 (34 * S.1 14 0 + k)) = 4) = (S.1 1 (34 * S.1 14 0 + k) = 4) from pz_eq (b := 4) (by omega) (by omega), show (nI (S.1 1 (34 * S.1 14 0 + k)) ≤ (0 : Int32)) = (S.1 1 (34 * S.1 14 0 + k) ≤ 0) from pz_le (b := 0) (by omega) (by omega)]
  refine ⟨fun h4 => ⟨fun h0 => kN (Or.inr ⟨h4, Or.inl (by omega)⟩), fun h0 => ?_⟩, fun h4 => ⟨pz_in (by omega) (by omega), R.t1 hp hk (v := 0) (fun m1 R => ?_)⟩⟩
  · refine w_tripPlace R B M hp hk (fun i hi he => ⟨fun z => absurd z (nI_n0 (by omega)), fun _ => ?_⟩) (fun hx => ⟨fun _ => kN (Or.inr ⟨h4, Or.inr hx⟩), fun z => absurd (by decide) z⟩)
    rw [R.g14, pz_34, nI_clamp (by omega), R.g1 hp hk, nI_dec (by omega)]
    refine ⟨pz_in (by omega) (by omega), pz_in (by omega) (by omega), R.t1 hp hk (fun m1 R => R.t26n (fun m2 R => R.t27 (fun m3 R => ⟨Or.inr rfl, R.t15 (v := 1) (fun m4 R => kA ok h4 (by omega) ⟨i, hi, he⟩ m4 ?_)⟩)))⟩
    have R := R.x 21 0 (k + 1) (fun _ h => h)
    refine Eq.mp (congrArg (fun T => Rr m4 T m0) ?_) R
    unfold adS
    refine Prod.ext ?_ rfl
    funext a j
    simp only [us_1]
    by_cases h0 : a = 1
    · subst h0; first | (simp; done) | (by_cases hj : j = 0 <;> simp [hj])
    by_cases h1 : a = 26
    · subst h1; first | (simp; done) | (by_cases hj : j = 0 <;> simp [hj])
    by_cases h2 : a = 27
    · subst h2; first | (simp; done) | (by_cases hj : j = 0 <;> simp [hj])
    by_cases h3 : a = 15
    · subst h3; first | (simp; done) | (by_cases hj : j = 0 <;> simp [hj])
    by_cases h4 : a = 21
    · subst h4; first | (simp; done) | (by_cases hj : j = 0 <;> simp [hj])
    simp [h0, h1, h2, h3, h4]
  · obtain ⟨_, hw, Ba⟩ := h_closed W h11 hk h4 ok
    rw [show m1.1 33 4 = nI (S.1 14 0) from R.g14]
    refine w_lay (f := 3) R hp hw (fun m2 R => ?_)
    rw [show m2.1 33 4 = nI (S.1 14 0) from R.g14]
    exact w_completeQuadR R Ba hp ok.2.2.1 (fun m3 R => k4 ok h4 m3 R)
theorem q_quad (J : Jg) {a : Int32} {m : zm} (I : Inv m) {F : Prop → Prop} (hF : ∀ P, P → F P) {K : Int32 → Int32 → zm → Prop} (hK : ∀ r m', Inv m' → K r r m') : j_Table_quad a m (fun r1 m1 => F (j_Model_quad a m1 (fun r2 m2 => K r1 r2 m2))) := by
  have I' := I
  obtain ⟨S, R, Q, W⟩ := I
  have B := W.1
  have b14 := B.b14 0
  by_cases h11 : S.1 11 0 = 1
  · rcases ar_or (n := 34) (by omega) a with ⟨k, hk, e⟩ | ha
    · subst e
      have c1 : ∀ {P Q : Prop}, ¬ P → P → Q := fun h p => absurd p h
      by_cases ok : qok S
      · by_cases h4 : S.1 1 (34 * S.1 14 0 + k) = 4
        · obtain ⟨W', _, _⟩ := h_closed W h11 hk h4 ok
          refine c_quad R W h11 hk (fun z => by rcases z with z | z; exact absurd ok z; exact absurd h4 z.1) (fun _ _ m1 R => ?_) (fun _ z => absurd h4 z)
          refine hF _ (r_quad (Q.re R.fr) W h11 hk (fun z => by rcases z with z | z; exact absurd ok z; exact absurd h4 z.1) (fun _ _ m2 Q => ?_) (fun _ z => absurd h4 z))
          rw [show m1.1 0 3 = nI 1 from R.g11, show m2.1 33 3 = nI 1 from Q.g11]
          exact hK _ _ (Inv.mk R Q W')
        · by_cases h0 : S.1 1 (34 * S.1 14 0 + k) = 0
          · refine c_quad R W h11 hk (fun _ => ?_) (fun _ z => absurd z h4) (fun _ _ z => absurd h0 z)
            exact hF _ (r_quad Q W h11 hk (fun _ => hK _ _ I') (fun _ z => absurd z h4) (fun _ _ z => absurd h0 z))
          · by_cases hx : ∃ i, i < S.1 2 (S.1 14 0) ∧ mf S (S.1 14 0) i = 4 * k + 1
            · obtain ⟨S', W', hc, hr⟩ := h_ask1 J (ad_W W h11 hk h0 ok hx) (t := k) rfl rfl
              have no : ¬ (¬ qok S ∨ (¬ S.1 1 (34 * S.1 14 0 + k) = 4 ∧ (S.1 1 (34 * S.1 14 0 + k) = 0 ∨ ¬ ∃ i, i < S.1 2 (S.1 14 0) ∧ mf S (S.1 14 0) i = 4 * k + 1))) := by
                rintro (z | ⟨_, z | z⟩)
                · exact z ok
                · exact h0 z
                · exact z hx
              refine c_quad R W h11 hk (fun z => absurd z no) (fun _ z => absurd z h4) (fun _ _ _ _ m1 R => hc m1 m _ R (fun m2 R => ?_))
              refine hF _ (r_quad (Q.re R.fr) W h11 hk (fun z => absurd z no) (fun _ z => absurd z h4) (fun _ _ _ _ m3 Q => hr m3 m2 _ Q (fun m4 Q => ?_)))
              show K (m2.1 0 3) (m4.1 33 3) m4
              rw [show m2.1 0 3 = nI (S'.1 11 0) from R.g11, show m4.1 33 3 = nI (S'.1 11 0) from Q.g11]
              exact hK _ _ (Inv.mk R Q W')
            · refine c_quad R W h11 hk (fun _ => ?_) (fun _ z => absurd z h4) (fun _ _ _ z => absurd z hx)
              exact hF _ (r_quad Q W h11 hk (fun _ => hK _ _ I') (fun _ z => absurd z h4) (fun _ _ _ z => absurd z hx))
      · refine c_quad R W h11 hk (fun _ => ?_) (fun z => absurd z ok) (fun z => absurd z ok)
        exact hF _ (r_quad Q W h11 hk (fun _ => hK _ _ I') (fun z => absurd z ok) (fun z => absurd z ok))
    · unfold j_Table_quad
      rw [show (m.1 0 3 = 1) = (S.1 11 0 = 1) from ph_eq B R.g11 1 (by omega)]
      refine ⟨fun z => absurd h11 z, fun _ => w_isKindF ha ⟨fun _ => ?_, fun z => absurd rfl z⟩⟩
      refine hF _ ?_
      unfold j_Model_quad
      refine w_isTurn Q B (fun _ => ⟨fun z => absurd z (by decide), fun _ => ⟨fun _ => hK _ _ I', fun h1 => ⟨fun _ => hK _ _ I', fun h2 => ?_⟩⟩⟩) (fun z => absurd h11 z)
      exfalso
      rcases ha with z | z
      · exact h1 z
      · exact h2 (Int32.lt_of_lt_of_le (show (33 : Int32) < nI 34 by decide) z)
  · unfold j_Table_quad
    rw [show (m.1 0 3 = 1) = (S.1 11 0 = 1) from ph_eq B R.g11 1 (by omega)]
    refine ⟨fun _ => hF _ ?_, fun z => absurd z h11⟩
    unfold j_Model_quad
    exact w_isTurn Q B (fun z => absurd z h11) (fun _ => ⟨fun _ => hK _ _ I', fun z => absurd rfl z⟩)
