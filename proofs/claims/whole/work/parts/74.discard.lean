/-! DISCARDS -/
theorem Rc.ide {m m0 : zm} {X : zS} (R : Rc m X m0) (a i v : Nat) (h : v = X.1 a i) : Rc m (us X a i v) m0 := by rw [h, us_id]; exact R
theorem Rr.ide {m m0 : zm} {X : zS} (R : Rr m X m0) (a i v : Nat) (h : v = X.1 a i) : Rr m (us X a i v) m0 := by rw [h, us_id]; exact R
theorem or_bit {f : Nat → Bool} {k : Nat} (hk : k < 34) : lN (mk_ f 34) ||| (1 <<< ((nI k).toInt64 &&& 63)) = lN (mk_ (fun j => f j || j == k) 34) := by
  have l1 := mk_lt f 34
  have l2 := mk_lt (fun j => f j || j == k) 34
  have l3 : 2 ^ k < 2 ^ 34 := wb_lt2 hk
  rw [show (1 : Int64) = lN 1 from rfl, wb_shl 1 (by omega), Nat.one_mul, wb_or (by omega) (by omega)]
  congr 1
  refine Nat.eq_of_testBit_eq (fun i => ?_)
  rw [Nat.testBit_or]
  by_cases hi : i < 34
  · rw [mk_testBit hi, mk_testBit hi, Nat.testBit_two_pow]
    congr 1
    by_cases q : k = i
    · subst q; simp
    · rw [decide_eq_false q]; simp; omega
  · have hp : 2 ^ 34 ≤ 2 ^ i := Nat.pow_le_pow_right (by omega) (by omega)
    rw [Nat.testBit_lt_two_pow (show mk_ f 34 < 2 ^ i by omega), Nat.testBit_lt_two_pow (show 2 ^ k < 2 ^ i by omega), Nat.testBit_lt_two_pow (show mk_ (fun j => f j || j == k) 34 < 2 ^ i by omega)]
    rfl
noncomputable def dcS (S : zS) (p k ri rn : Nat) : zS := us (us (us (us (us (us (us (us (us (us (uy (us S 1 (34 * p + k) (S.1 1 (34 * p + k) - 1)) 1 p (lN (mk_ (fun j => df S p j || j == k) 34))) 5 (100 * p + S.1 4 p) k) 4 p (S.1 4 p + 1)) 7 p ri) 6 p rn) 19 0 ri) 21 0 (k + 1)) 15 0 0) 28 0 (if ri = 1 then p + 1 else 0)) 26 0 0) 27 0 k
theorem dc_f {S : zS} {p k ri rn a : Nat} (h : ¬ (a = 1 ∨ a = 5 ∨ a = 4 ∨ a = 7 ∨ a = 6 ∨ a = 19 ∨ a = 21 ∨ a = 15 ∨ a = 28 ∨ a = 26 ∨ a = 27)) : (dcS S p k ri rn).1 a = S.1 a := by
  funext j
  unfold dcS
  simp only [us_1, uy_1]
  rw [if_neg (by omega), if_neg (by omega), if_neg (by omega), if_neg (by omega), if_neg (by omega), if_neg (by omega), if_neg (by omega), if_neg (by omega), if_neg (by omega), if_neg (by omega), if_neg (by omega)]
theorem dc_1 {S : zS} {p k ri rn : Nat} : (dcS S p k ri rn).1 1 = (us S 1 (34 * p + k) (S.1 1 (34 * p + k) - 1)).1 1 := rfl
theorem dc_4 {S : zS} {p k ri rn r : Nat} : (dcS S p k ri rn).1 4 r = if r = p then S.1 4 p + 1 else S.1 4 r := by
  unfold dcS
  simp only [us_1, uy_1]
  simp
theorem dc_5 {S : zS} {p k ri rn j : Nat} : (dcS S p k ri rn).1 5 j = if j = 100 * p + S.1 4 p then k else S.1 5 j := by
  unfold dcS
  simp only [us_1, uy_1]
  simp
theorem dc_7 {S : zS} {p k ri rn r : Nat} : (dcS S p k ri rn).1 7 r = if r = p then ri else S.1 7 r := by
  unfold dcS
  simp only [us_1, uy_1]
  simp
theorem dc_6 {S : zS} {p k ri rn r : Nat} : (dcS S p k ri rn).1 6 r = if r = p then rn else S.1 6 r := by
  unfold dcS
  simp only [us_1, uy_1]
  simp
theorem dc_W {S : zS} {k ri rn : Nat} (W : Wf S) (h11 : S.1 11 0 = 1) (hk : k < 34) (hc : ¬ S.1 1 (34 * S.1 14 0 + k) = 0) (hr : (ri = 0 ∧ rn = S.1 6 (S.1 14 0)) ∨ (ri = 1 ∧ (rn = 1 ∨ rn = 2) ∧ cls S (S.1 14 0))) : Wd (dcS S (S.1 14 0) k ri rn) := by
  obtain ⟨B, M, w, r, ⟨wc, p1, p2, p3, _⟩, _, o, w1, _⟩ := W
  obtain ⟨s, tt, rv, h26, h24, h28⟩ := w1 h11
  have b14 := B.b14 0
  have hp : S.1 14 0 < 4 := by omega
  have p3 := p3 (by omega)
  have b1 := B.b1 (34 * S.1 14 0 + k)
  have b4 : ∀ r, S.1 4 r ≤ 95 := B.b4
  have b6 := B.b6 (S.1 14 0)
  have m4 : msm S ≤ 16 := by
    have h0 := B.b2 0
    have h1 := B.b2 1
    have h2 := B.b2 2
    have h3 := B.b2 3
    unfold msm; omega
  have rc : S.1 4 (S.1 14 0) + 1 ≤ 95 := by
    unfold rsm at rv
    rcases (show S.1 14 0 = 0 ∨ S.1 14 0 = 1 ∨ S.1 14 0 = 2 ∨ S.1 14 0 = 3 by omega) with e | e | e | e <;> rw [e] <;> omega
  have f : ∀ a, ¬ (a = 1 ∨ a = 5 ∨ a = 4 ∨ a = 7 ∨ a = 6 ∨ a = 19 ∨ a = 21 ∨ a = 15 ∨ a = 28 ∨ a = 26 ∨ a = 27) → (dcS S (S.1 14 0) k ri rn).1 a = S.1 a := fun a h => dc_f h
  have ri1 : ri ≤ 1 := by omega
  have rn2 : rn ≤ 2 := by omega
  have ec := cf_at (S := S) (p := S.1 14 0) hk
  have c0 : ∀ r, ¬ r = S.1 14 0 → cf (dcS S (S.1 14 0) k ri rn) r = cf S r := fun r h => by rw [cf_c dc_1, cf_1 S hk, if_neg h]
  have c1 : cf (dcS S (S.1 14 0) k ri rn) (S.1 14 0) = upd_ (cf S (S.1 14 0)) k (S.1 1 (34 * S.1 14 0 + k) - 1) := by rw [cf_c dc_1, cf_dn hk]
  have et : til (dcS S (S.1 14 0) k ri rn) = k := by show k + 1 - 1 = k; omega
  have dd : ∀ r j, r < 4 → df (dcS S (S.1 14 0) k ri rn) r j = if r = S.1 14 0 then (df S r j || j == k) else df S r j := by
    intro r j hr4
    have b4r := b4 r
    by_cases e : r = S.1 14 0
    · subst e
      rw [if_pos rfl]
      by_cases q : df S (S.1 14 0) j = true
      · rw [q, Bool.true_or]
        obtain ⟨i, h1, h2⟩ := df_iff.mp q
        refine df_iff.mpr ⟨i, by rw [dc_4, if_pos rfl]; omega, ?_⟩
        unfold rf_ at h2 ⊢
        rw [dc_5, if_neg (by omega)]; exact h2
      · rw [ts_nt q, Bool.false_or]
        by_cases q2 : j = k
        · rw [q2, show (k == k) = true from by simp]
          refine df_iff.mpr ⟨S.1 4 (S.1 14 0), by rw [dc_4, if_pos rfl]; omega, ?_⟩
          unfold rf_
          rw [dc_5, if_pos rfl]
        · rw [show (j == k) = false from by simp [q2]]
          refine bb_f (fun ⟨i, h1, h2⟩ => ?_)
          rw [dc_4, if_pos rfl] at h1
          unfold rf_ at h2
          rw [dc_5] at h2
          by_cases q3 : i = S.1 4 (S.1 14 0)
          · rw [if_pos (by omega)] at h2; exact q2 h2.symm
          · rw [if_neg (by omega)] at h2
            exact q (df_iff.mpr ⟨i, by omega, h2⟩)
    · rw [if_neg e]
      have h4 : (dcS S (S.1 14 0) k ri rn).1 4 r = S.1 4 r := by rw [dc_4, if_neg e]
      have b4p := b4 (S.1 14 0)
      refine bb_eq ⟨fun ⟨i, h1, h2⟩ => ⟨i, by rw [h4] at h1; exact h1, ?_⟩, fun ⟨i, h1, h2⟩ => ⟨i, by rw [h4]; exact h1, ?_⟩⟩
      · rw [h4] at h1
        unfold rf_ at h2 ⊢
        rw [dc_5, if_neg (by omega)] at h2; exact h2
      · unfold rf_ at h2 ⊢
        rw [dc_5, if_neg (by omega)]; exact h2
  refine ⟨?_, M.c (f 3 (by omega)) (f 22 (by omega)) (f 23 (by omega)), w.c rfl rfl rfl, fun r' hr' => ?_, fun j hj => ?_, by rw [f 20 (by omega)]; exact p1, by rw [f 20 (by omega), f 17 (by omega)]; exact p2, by rw [f 20 (by omega), f 25 (by omega)]; exact p3, fun q hq => ?_, fun j hj => ?_, ?_, ?_, ?_, fun _ => ?_, fun z => ?_⟩
  · unfold dcS
    refine Bd.u (Bd.u (Bd.u (Bd.u (Bd.u (Bd.u (Bd.u (Bd.u (Bd.u (Bd.u (Bd.uy (Bd.u B ?_)) ?_) ?_) ?_) ?_) ?_) ?_) ?_) ?_) ?_) ?_
    · show S.1 1 (34 * S.1 14 0 + k) - 1 ≤ 4; omega
    · show k ≤ 33; omega
    · show S.1 4 (S.1 14 0) + 1 ≤ 95; omega
    · exact ri1
    · exact rn2
    · exact ri1
    · show k + 1 ≤ 34; omega
    · exact Nat.zero_le _
    · show (if ri = 1 then S.1 14 0 + 1 else 0) ≤ 4
      split <;> omega
    · exact Nat.zero_le _
    · show k ≤ 33; omega
  · obtain ⟨a1, a2, a3⟩ := r r' hr'
    have cc : cls (dcS S (S.1 14 0) k ri rn) r' = cls S r' := cls_c (f 2 (by omega)) (f 3 (by omega))
    refine ⟨?_, ?_, ?_⟩
    · have : (dcS S (S.1 14 0) k ri rn).2.2 1 r' = if r' = S.1 14 0 then lN (mk_ (fun j => df S (S.1 14 0) j || j == k) 34) else S.2.2 1 r' := by
        show (if 1 = 1 ∧ r' = S.1 14 0 then _ else S.2.2 1 r') = _
        by_cases q : r' = S.1 14 0
        · rw [if_pos ⟨rfl, q⟩, if_pos q]
        · rw [if_neg (fun z => q z.2), if_neg q]
      rw [this]
      by_cases q : r' = S.1 14 0
      · rw [if_pos q]
        congr 1
        refine mk_inj.mpr (fun j hj => ?_)
        rw [dd r' j hr', if_pos q, q]
      · rw [if_neg q, a1]
        congr 1
        refine mk_inj.mpr (fun j hj => ?_)
        rw [dd r' j hr', if_neg q]
    · rw [cc, dc_6]
      by_cases q : r' = S.1 14 0
      · rw [if_pos q]
        rcases hr with ⟨_, z⟩ | ⟨_, _, z⟩
        · rw [z, ← q]; exact a2
        · rw [q]; exact fun _ => z
      · rw [if_neg q]; exact a2
    · rw [dc_7, dc_6]
      by_cases q : r' = S.1 14 0
      · rw [if_pos q, if_pos q]
        intro z
        omega
      · rw [if_neg q, if_neg q]; exact a3
  · unfold wn; rw [f 0 (by omega)]; exact wc j hj
  · have h1 := s q hq
    unfold ssm at h1 ⊢
    rw [f 2 (by omega)]
    by_cases e : q = S.1 14 0
    · rw [if_pos e] at h1
      subst e
      rw [c1]
      have := csum_upd (c := cf S (S.1 14 0)) (k := k) (v := S.1 1 (34 * S.1 14 0 + k) - 1) 34
      rw [if_pos hk, if_pos hk] at this
      omega
    · rw [if_neg e] at h1
      rw [c0 q e]; exact h1
  · have h1 := tt j hj
    have e2 : rst (dcS S (S.1 14 0) k ri rn) j = rst S j := by unfold rst wn; rw [f 0 (by omega), f 17 (by omega), f 20 (by omega)]
    have e3 := tot4 (S := S) (T := dcS S (S.1 14 0) k ri rn) (p := S.1 14 0) (k := j) (x := if j = k then 1 else 0) (y := 0) hp (by
      unfold oS
      rw [c1, f 2 (by omega), mf_c (f 3 (by omega))]
      have := own_upd (c := cf S (S.1 14 0)) (d := mf S (S.1 14 0)) (w := S.1 2 (S.1 14 0)) (k := k) (v := S.1 1 (34 * S.1 14 0 + k) - 1) (j := j)
      by_cases e : j = k
      · rw [if_pos e] at *
        rw [if_pos e] at this
        omega
      · rw [if_neg e] at *
        rw [if_neg e] at this
        omega) (fun r _ h => by
      unfold oS
      rw [c0 r h, f 2 (by omega), mf_c (f 3 (by omega))])
    rw [et, e2]
    omega
  · have e4 : rsm (dcS S (S.1 14 0) k ri rn) = rsm S + 1 := by
      unfold rsm
      rw [dc_4, dc_4, dc_4, dc_4]
      rcases (show S.1 14 0 = 0 ∨ S.1 14 0 = 1 ∨ S.1 14 0 = 2 ∨ S.1 14 0 = 3 by omega) with e | e | e | e <;> rw [e] <;> simp <;> omega
    have e5 : msm (dcS S (S.1 14 0) k ri rn) = msm S := by unfold msm; rw [f 2 (by omega)]
    rw [e4, e5, f 20 (by omega), f 17 (by omega)]
    exact rv
  · show 0 < k + 1; omega
  · rw [et]; rfl
  · show (if ri = 1 then S.1 14 0 + 1 else 0) = if ri = 1 then S.1 14 0 + 1 else 0
    rfl
  · exact absurd z (by show ¬ 0 = 1; omega)
/-! may a player say riichi -/
def MR (S : zS) (p k : Nat) : Prop := S.1 6 p = 0 ∧ cls S p ∧ ¬ S.2.1 30 p < 1000 ∧ 4 ≤ lft S ∧ 0 < S.1 21 0 ∧ ¬ wm_ (upd_ (cf S p) k (S.1 1 (34 * p + k) - 1)) (mf S p) (S.1 2 p) = 0
theorem m1_v : ∀ v, v < 35 → ((nI v - 1 = -1) ↔ v = 0) ∧ ((nI v - 1 < 0) ↔ v = 0) := by decide +kernel
theorem w_mayRiichi {p k : Nat} {m m0 : zm} {S : zS} {K : Int32 → zm → Prop} (R : Rc m S m0) (B : Bd S) (hp : p < 4) (hk : k < 34) (hc : ¬ S.1 1 (34 * p + k) = 0) (hl : S.1 20 0 + S.1 17 0 ≤ 122) (kk : ∀ m', Rc m' S m0 → K (bI (bb (MR S p k))) m') : j_Table_mayRiichi (13 + 5 * p) (nI k) m K := by
  have b6 := B.b6 p
  have b21 := B.b21 0
  have b1 := B.b1 (34 * p + k)
  have hlf : lft S ≤ 122 := by unfold lft; omega
  have no : ¬ MR S p k → j_Table_mayRiichi_L43 (13 + 5 * p) (nI k) K m := by
    intro h
    have := kk m R
    rw [bb_f h] at this
    exact this
  unfold j_Table_mayRiichi
  rw [R.g6 hp, pz_0 (by omega)]
  refine ⟨fun h => no (fun z => h z.1), fun h6 => w_closed R B hp (fun hcl => ⟨fun z => absurd z (by decide), fun _ => ?_⟩) (fun hcl => ⟨fun _ => no (fun z => hcl z.2.1), fun z => absurd rfl z⟩)⟩
  rw [R.g30 hp]
  refine ⟨fun h => no (fun z => z.2.2.1 h), fun h30 => w_countLeft R hl ?_⟩
  rw [show (nI (lft S) < (4 : Int32)) = (lft S < 4) from pz_lt (b := 4) (by omega) (by omega), R.g21, propext (m1_v _ (by omega)).1, nI_clamp (by omega), R.g1 hp hk, nI_dec (by omega)]
  refine ⟨fun h => no (fun z => by have := z.2.2.2.1; omega), fun h4 => ⟨fun h21 => ⟨pz_in hk (by omega), pz_in hk (by omega), R.t1 hp hk (fun m1 R => ?_)⟩, fun h => no (fun z => by have := z.2.2.2.2.1; omega)⟩⟩
  have B1 : Bd (us S 1 (34 * p + k) (S.1 1 (34 * p + k) - 1)) := B.u (show S.1 1 (34 * p + k) - 1 ≤ 4 by omega)
  have pp := R.pP B1 hp
  rw [cf_dn hk] at pp
  have hlt := wm_lt (upd_ (cf S p) k (S.1 1 (34 * p + k) - 1)) (mf S p) (S.1 2 p)
  have l69 : ∀ b, bb (MR S p k) = b → j_Table_mayRiichi_L69 (13 + 5 * p) (nI k) K (bI b) m1 := by
    intro b hb
    unfold j_Table_mayRiichi_L69
    rw [nI_clamp (by omega), R.g1 hp hk, us_1, if_pos ⟨rfl, rfl⟩, nI_1]
    refine ⟨pz_in hk (by omega), pz_in hk (by omega), R.t1 hp hk (fun m2 R => ⟨?_, ?_⟩)⟩
    · cases b
      · exact Or.inl rfl
      · exact Or.inr rfl
    · rw [us_us, show S.1 1 (34 * p + k) - 1 + 1 = S.1 1 (34 * p + k) by omega, us_id] at R
      have := kk m2 R
      rw [hb] at this
      exact this
  refine w_Player_findWaits pp ?_
  rw [pz_cmp0]
  have e0 := lN_0 (n := wm_ (upd_ (cf S p) k (S.1 1 (34 * p + k) - 1)) (mf S p) (S.1 2 p)) (by omega)
  refine ⟨fun h => l69 false (bb_f (fun z => z.2.2.2.2.2 (Eq.mp e0 h))), fun h => l69 true (bb_t ⟨h6, hcl, h30, by omega, by omega, fun z => h (Eq.mpr e0 z)⟩)⟩
