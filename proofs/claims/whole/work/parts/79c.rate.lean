/-! A READING IS RATED -/
theorem pz_cmple {a b : Nat} (ha : a < 2 ^ 62) (hb : b < 2 ^ 62) : (lg_cmp (lN a) (lN b) ≤ 0) = (a ≤ b) := by
  have h1 : (lN a > lN b) = (b < a) := by
    show (lN b < lN a) = _
    rw [Int64.lt_iff_toInt_lt, pf_lI (by omega), pf_lI (by omega)]
    exact propext (by omega)
  have h2 : (lN a = lN b) = (a = b) := by
    refine propext ⟨fun e => ?_, fun e => by rw [e]⟩
    have := congrArg Int64.toInt e
    rw [pf_lI (by omega), pf_lI (by omega)] at this
    omega
  unfold lg_cmp
  by_cases q : b < a
  · rw [if_pos (show lN a > lN b from by rw [h1]; exact q)]
    exact propext ⟨fun z => absurd z (by decide), fun z => by omega⟩
  · rw [if_neg (show ¬ lN a > lN b from by rw [h1]; exact q)]
    by_cases q2 : a = b
    · rw [if_pos (show lN a = lN b from by rw [q2])]
      exact propext ⟨fun _ => by omega, fun _ => by decide⟩
    · rw [if_neg (show ¬ lN a = lN b from by rw [h2]; exact q2)]
      exact propext ⟨fun _ => by omega, fun _ => by decide⟩
theorem sl_b : ∀ k, k < 8 → ∀ a, a < 300 → nI a <<< (nI k &&& 31) = nI (a * 2 ^ k) := by decide +kernel
theorem cl_h : ∀ y, y < 30 → zk_CLOSED y = nI (hn_ y true) := by decide +kernel
def zro (y : Nat) : Bool := y == 0 || y == 1 || y == 2 || y == 3 || y == 8 || y == 9 || y == 26 || y == 27
theorem op_h : ∀ y, y < 30 → zro y = false → zk_OPEN y = nI (hn_ y false) := by decide +kernel
theorem hn_le : ∀ y c, hn_ y c ≤ 6 := by
  intro y c
  unfold hn_
  cases c <;> (repeat' split) <;> omega
theorem hs_le (f : Nat → Bool) (c : Bool) : ∀ n, hs_ f c n ≤ 6 * n
  | 0 => Nat.le_refl _
  | n + 1 => by
    have := hs_le f c n
    have := hn_le n c
    rw [hs_]
    split <;> omega
/-- sizes of a value -/
def vz (u : zV) : Prop := u.1 ≤ 8000 ∧ u.2.1 < 1000 ∧ u.2.2.1 < 300 ∧ u.2.2.2 < 2 ^ 42
theorem bs_le (h fu : Nat) : bs_ h fu ≤ 8000 := by
  unfold bs_
  repeat' split
  all_goals omega
theorem vy_vz {f : Nat → Bool} {c : Bool} {dr fu : Nat} (hd : dr < 500) (hf : fu < 300) : vz (vy f c dr fu) := by
  have h1 := hs_le f c 30
  have h2 := bs_le (dr + hs_ f c 30) fu
  unfold vy
  split
  · exact ⟨by show 8000 ≤ 8000; omega, by show 13 < 1000; omega, hf, mk_lt _ 42⟩
  · exact ⟨h2, by show dr + hs_ f c 30 < 1000; omega, hf, mk_lt _ 42⟩
theorem lg_d {f : Nat → Bool} (h : ¬ lim_ f) {c : Bool} {dr fu : Nat} : vy f c dr fu = (bs_ (dr + hs_ f c 30) fu, dr + hs_ f c 30, fu, mk_ f 42) := by
  unfold vy
  rw [if_neg (fun z => h (bb_iff.mp z))]
theorem lg_l {f : Nat → Bool} (h : lim_ f) {c : Bool} {dr fu : Nat} : vy f c dr fu = (8000, 13, fu, mk_ (lmt f) 42) := by
  unfold vy
  rw [if_pos (bb_t h)]
  rfl
theorem w_baseOf {h fu : Nat} {m : zm} {K : Int32 → zm → Prop} (hh : h < 1000) (hf : fu < 300) (hf2 : 20 ≤ fu) (k : K (nI (bs_ h fu)) m) : j_Judge_baseOf (nI h) (nI fu) m K := by
  unfold j_Judge_baseOf
  rw [show (nI h < (13 : Int32)) = (h < 13) from pz_lt (b := 13) (by omega) (by omega), show (nI h < (11 : Int32)) = (h < 11) from pz_lt (b := 11) (by omega) (by omega), show (nI h < (8 : Int32)) = (h < 8) from pz_lt (b := 8) (by omega) (by omega), show (nI h < (6 : Int32)) = (h < 6) from pz_lt (b := 6) (by omega) (by omega)]
  unfold bs_ at k
  refine ⟨fun h13 => ⟨fun h11 => ⟨fun h8 => ⟨fun h6 => ?_, fun h6 => ?_⟩, fun h8 => ?_⟩, fun h11 => ?_⟩, fun h13 => ?_⟩
  · rw [if_neg (by omega), if_neg (by omega), if_neg (by omega), if_neg (by omega)] at k
    rw [show (2 : Int32) + nI h = nI (2 + h) from nI_add 2 h, sl_b (2 + h) (by omega) fu hf]
    have hb : fu * 2 ^ (2 + h) < 2 ^ 31 := by
      have : 2 ^ (2 + h) ≤ 2 ^ 7 := Nat.pow_le_pow_right (by omega) (by omega)
      have := Nat.mul_le_mul (show fu ≤ 300 by omega) this
      omega
    have hlt : (nI (fu * 2 ^ (2 + h)) < (2000 : Int32)) ↔ (fu * 2 ^ (2 + h) < 2000) := by rw [show (2000 : Int32) = nI 2000 from rfl, pz_lt hb (by omega)]
    by_cases h5 : 5 ≤ h
    · have e5 : h = 5 := by omega
      subst e5
      rw [if_pos (by omega)] at k
      rw [if_neg (fun z => by have := hlt.mp z; omega)]
      exact k
    · rw [if_neg h5] at k
      by_cases q : 2000 < fu * 2 ^ (2 + h)
      · rw [if_pos q] at k
        rw [if_neg (fun z => by have := hlt.mp z; omega)]
        exact k
      · rw [if_neg q] at k
        by_cases q2 : fu * 2 ^ (2 + h) < 2000
        · rw [if_pos (hlt.mpr q2)]; exact k
        · rw [if_neg (fun z => q2 (hlt.mp z))]
          rw [show fu * 2 ^ (2 + h) = 2000 by omega] at k
          exact k
  · rw [if_neg (by omega), if_neg (by omega), if_neg (by omega), if_pos (by omega)] at k; exact k
  · rw [if_neg (by omega), if_neg (by omega), if_pos (by omega)] at k; exact k
  · rw [if_neg (by omega), if_pos (by omega)] at k; exact k
  · rw [if_pos (by omega)] at k; exact k
theorem w_baseOfR {h fu : Nat} {m : zm} {K : Int32 → zm → Prop} (hh : h < 1000) (hf : fu < 300) (k : K (nI (bs_ h fu)) m) : j_Model_baseOf (nI h) (nI fu) m K := by
  unfold j_Model_baseOf j_Model_baseOf_L56 j_Model_baseOf_L77
  rw [show (nI h < (5 : Int32)) = (h < 5) from pz_lt (b := 5) (by omega) (by omega), show (nI h < (13 : Int32)) = (h < 13) from pz_lt (b := 13) (by omega) (by omega), show (nI h < (11 : Int32)) = (h < 11) from pz_lt (b := 11) (by omega) (by omega), show (nI h < (8 : Int32)) = (h < 8) from pz_lt (b := 8) (by omega) (by omega), show (nI h < (6 : Int32)) = (h < 6) from pz_lt (b := 6) (by omega) (by omega)]
  unfold bs_ at k
  refine ⟨fun h5 y hy => ?_, fun h5 => ⟨fun h13 => ⟨fun h11 => ⟨fun h8 => ⟨fun h6 => ?_, fun h6 => ?_⟩, fun h8 => ?_⟩, fun h11 => ?_⟩, fun h13 => ?_⟩⟩
  · rw [if_neg (by omega), if_neg (by omega), if_neg (by omega), if_neg (by omega), if_neg (by omega)] at k
    rw [show (2 : Int32) + nI h = nI (2 + h) from nI_add 2 h, sl_b (2 + h) (by omega) fu hf] at hy
    have hb : fu * 2 ^ (2 + h) < 2 ^ 31 := by
      have : 2 ^ (2 + h) ≤ 2 ^ 7 := Nat.pow_le_pow_right (by omega) (by omega)
      have := Nat.mul_le_mul (show fu ≤ 300 by omega) this
      omega
    rw [hy, show (nI (fu * 2 ^ (2 + h)) ≤ (2000 : Int32)) = (fu * 2 ^ (2 + h) ≤ 2000) from pz_le (b := 2000) hb (by omega)]
    refine ⟨fun q => ?_, fun q => ?_⟩
    · rw [if_neg (by omega)] at k; exact k
    · rw [if_pos (by omega)] at k; exact k
  · rw [if_neg (by omega), if_neg (by omega), if_neg (by omega), if_neg (by omega), if_pos (by omega)] at k; exact k
  · rw [if_neg (by omega), if_neg (by omega), if_neg (by omega), if_pos (by omega)] at k; exact k
  · rw [if_neg (by omega), if_neg (by omega), if_pos (by omega)] at k; exact k
  · rw [if_neg (by omega), if_pos (by omega)] at k; exact k
  · rw [if_pos (by omega)] at k; exact k
/-- what the table has found so far -/
def Hb (m : zm) (u : zV) : Prop := vz u ∧ ((u = (0, 0, 0, 0) ∧ m.2 10 4 = 0) ∨ (¬ u.2.2.2 = 0 ∧ m.1 10 0 = nI u.2.1 ∧ m.1 10 1 = nI u.2.2.1 ∧ m.1 10 2 = nI u.1 ∧ m.2 10 4 = lN u.2.2.2))
def eqJ (m m' : zm) : Prop := ∀ q j, ¬ (q = 9 ∨ q = 10) → m'.1 q j = m.1 q j ∧ m'.2 q j = m.2 q j
theorem eqJ.rf {m : zm} : eqJ m m := fun _ _ _ => ⟨rfl, rfl⟩
theorem eqJ.tr {m m1 m2 : zm} (h1 : eqJ m m1) (h2 : eqJ m1 m2) : eqJ m m2 := fun q j h => ⟨(h2 q j h).1.trans (h1 q j h).1, (h2 q j h).2.trans (h1 q j h).2⟩
theorem w_countHan {f : Nat → Bool} {c : Bool} {dr : Nat} {m : zm} {K : Int32 → zm → Prop} (hd : dr < 500) (g12 : m.1 2 12 = nI dr) (g5 : m.1 2 5 = bI c) (hz : c = false → ∀ y, y < 30 → f y = true → zro y = false) (k : K (nI (dr + hs_ f c 30)) m) : j_Judge_countHan (lY f) m K := by
  have main : ∀ n i, i + n = 30 → j_Judge_countHan_L8 (lY f) K (n + 1) (nI (dr + hs_ f c i)) (nI i) m := by
    intro n
    induction n with
    | zero =>
      intro i hi
      have e : i = 30 := by omega
      subst e
      rw [j_Judge_countHan_L8, show ((30 : Int32) ≤ nI 30) = True from propext ⟨fun _ => trivial, fun _ => by decide⟩]
      exact ⟨fun _ => k, fun z => absurd trivial z⟩
    | succ n ih =>
      intro i hi
      rw [j_Judge_countHan_L8, show ((30 : Int32) ≤ nI i) = (30 ≤ i) from pz_le (a := 30) (by omega) (by omega), lY_bit (by omega), g5, bI_0, nI_clamp (by omega)]
      refine ⟨fun z => by omega, fun _ => ⟨fun h y hy => ?_, fun h => ⟨fun hc => ⟨pz_in (by omega) (by omega), fun y hy y2 hy2 => ?_⟩, fun hc => ⟨pz_in (by omega) (by omega), fun y hy y2 hy2 => ?_⟩⟩⟩⟩
      · rw [hy, nI_1]
        have := ih (i + 1) (by omega)
        rw [hs_, if_neg (by rw [h]; decide), Nat.add_zero] at this
        exact this
      · subst hc
        rw [hy2, nI_1, hy, op_h i (by omega) (hz rfl i (by omega) (ts_nf h)), nI_add]
        have := ih (i + 1) (by omega)
        rw [hs_, if_pos (ts_nf h)] at this
        rw [Nat.add_assoc]
        exact this
      · have hc := ts_nf hc
        subst hc
        rw [hy2, nI_1, hy, cl_h i (by omega), nI_add]
        have := ih (i + 1) (by omega)
        rw [hs_, if_pos (ts_nf h)] at this
        rw [Nat.add_assoc]
        exact this
  intro y hy
  rw [hy, g12]
  exact ⟨31, main 30 0 (by omega)⟩
theorem w_isAbove {u v : zV} {m : zm} {K : Int32 → zm → Prop} (hu : vz u) (hv : vz v) (a0 : m.1 9 0 = nI v.2.1) (a1 : m.1 9 1 = nI v.2.2.1) (a2 : m.1 9 2 = nI v.1) (a4 : m.2 9 4 = lN v.2.2.2) (c0 : m.1 10 0 = nI u.2.1) (c1 : m.1 10 1 = nI u.2.2.1) (c2 : m.1 10 2 = nI u.1) (c4 : m.2 10 4 = lN u.2.2.2) (hT : ¬ vle v u → K 1 m) (hF : vle v u → K 0 m) : j_Worth_isAbove 9 10 m K := by
  obtain ⟨u1, u2, u3, u4⟩ := hu
  obtain ⟨v1, v2, v3, v4⟩ := hv
  unfold j_Worth_isAbove j_Worth_isAbove_L27 j_Worth_isAbove_L55 j_Worth_isAbove_L83 j_Worth_isAbove_L101
  rw [a0, a1, a2, a4, c0, c1, c2, c4, pz_eq (by omega) (by omega), pz_eq (by omega) (by omega), pz_eq (by omega) (by omega), pz_le (by omega) (by omega), pz_le (by omega) (by omega), pz_le (by omega) (by omega), pz_cmple (by omega) (by omega)]
  unfold vle at hT hF
  refine ⟨fun e1 => ⟨fun e2 => ⟨fun e3 => ⟨fun h => ⟨Or.inl rfl, hF (by omega)⟩, fun h => ⟨Or.inr rfl, hT (by omega)⟩⟩, fun e3 => ⟨fun h => ⟨Or.inl rfl, hF (by omega)⟩, fun h => ⟨Or.inr rfl, hT (by omega)⟩⟩⟩, fun e2 => ⟨fun h => ⟨Or.inl rfl, hF (by omega)⟩, fun h => ⟨Or.inr rfl, hT (by omega)⟩⟩⟩, fun e1 => ⟨fun h => ⟨Or.inl rfl, hF (by omega)⟩, fun h => ⟨Or.inr rfl, hT (by omega)⟩⟩⟩
theorem up_vz {u v : zV} (hu : vz u) (hv : vz v) : vz (up_ u v) := by
  unfold up_
  split
  · exact hu
  · exact hv
theorem w_rate {f : Nat → Bool} {c : Bool} {dr fu : Nat} {u : zV} {m : zm} {K : zm → Prop} (hd : dr < 500) (hf : fu < 300) (hf2 : 20 ≤ fu) (g12 : m.1 2 12 = nI dr) (g5 : m.1 2 5 = bI c) (hz : c = false → ∀ y, y < 30 → f y = true → zro y = false) (H : Hb m u) (k : ∀ m', eqJ m m' → Hb m' (up_ u (vy f c dr fu)) → K m') : j_Judge_rate (lY f) (nI fu) m K := by
  have hs := hs_le f c 30
  have l50 : ∀ m1 t v, v = vy f c dr fu → (v.2.2.2 = 0 ↔ ∀ k, k < 42 → f k = false) → eqJ m m1 → Hb m1 u → m1.2 9 4 = lN v.2.2.2 → v.2.1 = t → bs_ t fu = v.1 → v.2.2.1 = fu → j_Judge_rate_L50 (lY f) (nI fu) K (nI t) m1 := by
    intro m1 t v hv hy0 fr Hu g4 ht hb hfu
    have vv : vz v := by rw [hv]; exact vy_vz hd hf
    have t1 : t < 1000 := by rw [← ht]; exact vv.2.1
    intro m2 h2 m3 h3
    have a0 : m3.1 9 0 = nI t := by rw [h3, pz_rI, if_neg (by omega), h2, pz_rI, if_pos ⟨rfl, rfl⟩]
    rw [a0]
    refine w_baseOf t1 hf hf2 (fun m4 h4 => ?_)
    have b0 : m4.1 9 0 = nI v.2.1 := by rw [h4, pz_rI, if_neg (by omega), a0, ht]
    have b1 : m4.1 9 1 = nI v.2.2.1 := by rw [h4, pz_rI, if_neg (by omega), h3, pz_rI, if_pos ⟨rfl, rfl⟩, hfu]
    have b2 : m4.1 9 2 = nI v.1 := by rw [h4, pz_rI, if_pos ⟨rfl, rfl⟩, hb]
    have b4 : m4.2 9 4 = lN v.2.2.2 := by rw [h4, pz_rI2, h3, pz_rI2, h2, pz_rI2, g4]
    have fr4 : eqJ m m4 := fun q j hq => by
      rw [h4, pz_rI, pz_rI2, if_neg (by omega), h3, pz_rI, pz_rI2, if_neg (by omega), h2, pz_rI, pz_rI2, if_neg (by omega)]
      exact fr q j hq
    have best : ∀ j, m4.1 10 j = m1.1 10 j ∧ m4.2 10 j = m1.2 10 j := fun j => by
      rw [h4, pz_rI, pz_rI2, if_neg (by omega), h3, pz_rI, pz_rI2, if_neg (by omega), h2, pz_rI, pz_rI2, if_neg (by omega)]
      exact ⟨rfl, rfl⟩
    have H4 : Hb m4 u := by
      obtain ⟨z, hh⟩ := Hu
      refine ⟨z, ?_⟩
      rw [(best 0).1, (best 1).1, (best 2).1, (best 4).2]
      exact hh
    have l122 : (v.2.2.2 = 0 ∨ vle v u) → j_Judge_rate_L122 (lY f) (nI fu) K m4 := by
      intro q
      refine k m4 fr4 ?_
      rw [← hv, up_, if_pos (bb_t q)]
      exact H4
    have l111 : ¬ (v.2.2.2 = 0 ∨ vle v u) → j_Judge_rate_L111 (lY f) (nI fu) K m4 := by
      intro q
      unfold j_Judge_rate_L111 j_Worth_copy
      rw [b0]
      intro m5 h5
      have e51 : m5.1 9 1 = nI v.2.2.1 := by rw [h5, pz_rI, if_neg (by omega), b1]
      rw [e51]
      intro m6 h6
      have e62 : m6.1 9 2 = nI v.1 := by rw [h6, pz_rI, if_neg (by omega), h5, pz_rI, if_neg (by omega), b2]
      rw [e62]
      intro m7 h7 m8 h8
      have e84 : m8.2 9 4 = lN v.2.2.2 := by rw [h8, pz_rI2, h7, pz_rI2, h6, pz_rI2, h5, pz_rI2, b4]
      rw [e84]
      intro m9 h9
      refine k m9 (fun q j hq => ?_) ⟨?_, ?_⟩
      · rw [h9, pz_rL, pz_rL2, if_neg (by omega), h8, pz_rI, pz_rI2, if_neg (by omega), h7, pz_rI, pz_rI2, if_neg (by omega), h6, pz_rI, pz_rI2, if_neg (by omega), h5, pz_rI, pz_rI2, if_neg (by omega)]
        exact fr4 q j hq
      · rw [← hv]; exact up_vz H4.1 vv
      · rw [← hv, up_, if_neg (fun z => q (bb_iff.mp z))]
        refine Or.inr ⟨fun z => q (Or.inl z), ?_, ?_, ?_, ?_⟩
        · rw [h9, pz_rL2, h8, pz_rI, if_neg (by omega), h7, pz_rI, if_neg (by omega), h6, pz_rI, if_neg (by omega), h5, pz_rI, if_pos ⟨rfl, rfl⟩]
        · rw [h9, pz_rL2, h8, pz_rI, if_neg (by omega), h7, pz_rI, if_neg (by omega), h6, pz_rI, if_pos ⟨rfl, rfl⟩]
        · rw [h9, pz_rL2, h8, pz_rI, if_neg (by omega), h7, pz_rI, if_pos ⟨rfl, rfl⟩]
        · rw [h9, pz_rL, if_pos ⟨rfl, rfl⟩]
    rw [pz_cmp0, pz_cmp0, lY_z]
    refine ⟨fun h => l122 (Or.inl (hy0.mpr h)), fun h => ⟨fun h2 => l111 ?_, fun h2 => ?_⟩⟩
    · rcases H4.2 with ⟨e, _⟩ | ⟨e, _, _, _, e4⟩
      · rw [e]
        rintro (z | z)
        · exact h (hy0.mp z)
        · unfold vle at z
          simp only at z
          have : ¬ v.2.2.2 = 0 := fun q => h (hy0.mp q)
          omega
      · rw [e4, lN_0 (Nat.lt_trans H4.1.2.2.2 (by decide))] at h2
        exact absurd h2 e
    · rcases H4.2 with ⟨e, e4⟩ | ⟨e, c0, c1, c2, c4⟩
      · exact absurd e4 h2
      · refine w_isAbove H4.1 vv b0 b1 b2 b4 c0 c1 c2 c4 (fun q => ⟨fun z => absurd z (by decide), fun _ => l111 ?_⟩) (fun q => ⟨fun _ => l122 (Or.inr q), fun z => absurd rfl z⟩)
        rintro (z | z)
        · exact h (hy0.mp z)
        · exact q z
  intro y1 hy1
  rw [lY_3030] at hy1
  subst hy1
  have fr1 : ∀ (x : Int64) m1, m1 = zm_wL m 9 4 x → eqJ m m1 ∧ Hb m1 u ∧ m1.2 9 4 = x := by
    intro x m1 h1
    refine ⟨fun q j hq => ?_, ?_, ?_⟩
    · rw [h1, pz_rL, pz_rL2, if_neg (by omega)]; exact ⟨rfl, rfl⟩
    · obtain ⟨z, hh⟩ := H
      refine ⟨z, ?_⟩
      rw [h1, pz_rL, pz_rL2, if_neg (by omega)]
      exact hh
    · rw [h1, pz_rL, if_pos ⟨rfl, rfl⟩]
  unfold j_Judge_rate_L26
  rw [pz_cmp0, lY_z, propext (lmt_z f)]
  by_cases hl : lim_ f
  · refine ⟨fun z => absurd hl z, fun _ m1 h1 => ⟨fun z => absurd hl z, fun _ => ?_⟩⟩
    obtain ⟨e1, e2, e3⟩ := fr1 _ m1 h1
    refine l50 m1 13 _ rfl ?_ e1 e2 ?_ ?_ ?_ ?_
    · rw [lg_l hl]
      obtain ⟨y, y1, y2, y3⟩ := hl
      refine ⟨fun z => ?_, fun z => ?_⟩
      · have := mk_z.mp z y y2
        unfold lmt at this
        rw [y3, decide_eq_true y1] at this
        cases this
      · rw [z y y2] at y3; cases y3
    · rw [lg_l hl]; exact e3
    · rw [lg_l hl]
    · rw [lg_l hl]; rfl
    · rw [lg_l hl]
  · refine ⟨fun _ m1 h1 => ⟨fun _ => ?_, fun z => absurd hl z⟩, fun z => absurd hl z⟩
    obtain ⟨e1, e2, e3⟩ := fr1 _ m1 h1
    refine w_countHan hd ((e1 2 12 (by omega)).1.trans g12) ((e1 2 5 (by omega)).1.trans g5) hz ?_
    refine l50 m1 _ _ rfl ?_ e1 e2 ?_ ?_ ?_ ?_
    · rw [lg_d hl]; exact mk_z
    · rw [lg_d hl]; exact e3
    · rw [lg_d hl]
    · rw [lg_d hl]
    · rw [lg_d hl]
