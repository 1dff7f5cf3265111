/-! THE WALL SHUFFLED -/
theorem us_cm (S : zS) {a i v b j w : Nat} (h : ¬ (a = b ∧ i = j)) : us (us S a i v) b j w = us (us S b j w) a i v := by
  refine Prod.ext ?_ rfl
  funext c k
  simp only [us_1]
  by_cases e1 : c = a ∧ k = i
  · by_cases e2 : c = b ∧ k = j
    · exact absurd ⟨e1.1.symm.trans e2.1, e1.2.symm.trans e2.2⟩ h
    · rw [if_pos e1, if_neg e2, if_pos e1]
  · rw [if_neg e1, if_neg e1]
theorem us_us (S : zS) (a i v w : Nat) : us (us S a i v) a i w = us S a i w := by
  refine Prod.ext ?_ rfl
  funext c k
  simp only [us_1]
  by_cases e1 : c = a ∧ k = i
  · rw [if_pos e1, if_pos e1]
  · rw [if_neg e1, if_neg e1, if_neg e1]
theorem ui_us (S : zS) (a i v b j : Nat) (x : Int32) : ui (us S a i v) b j x = us (ui S b j x) a i v := rfl
theorem ui_ui (S : zS) (a i : Nat) (x y : Int32) : ui (ui S a i x) a i y = ui S a i y := by
  refine Prod.ext rfl (Prod.ext ?_ rfl)
  funext c k
  simp only [ui_2]
  by_cases e1 : c = a ∧ k = i
  · rw [if_pos e1, if_pos e1]
  · rw [if_neg e1, if_neg e1, if_neg e1]
theorem wnf_up {f : Nat → Nat} {i v k : Nat} : ∀ n, wnf (fun j => if j = i then v else f j) k n + (if i < n ∧ f i = k then 1 else 0) = wnf f k n + (if i < n ∧ v = k then 1 else 0)
  | 0 => by rw [if_neg (by omega), if_neg (by omega)]; rfl
  | n + 1 => by
    have ih := wnf_up (f := f) (i := i) (v := v) (k := k) n
    rw [wnf, wnf]
    by_cases e : n = i
    · subst e
      rw [if_neg (by omega), if_neg (by omega)] at ih
      have ih : wnf (fun j => if j = n then v else f j) k n = wnf f k n := by omega
      rw [ih]
      simp only [if_true]
      by_cases h1 : v = k <;> by_cases h2 : f n = k <;> simp [h1, h2]
    · rw [if_neg e]
      by_cases h3 : i < n
      · have h4 : i < n + 1 := by omega
        simp only [h3, h4, true_and] at *
        omega
      · have h4 : ¬ i < n + 1 := by omega
        simp only [h3, h4, false_and, if_false] at *
        omega
def swf (f : Nat → Nat) (i j : Nat) : Nat → Nat := fun b => if b = j then f i else if b = i then f j else f b
theorem wnf_sw {f : Nat → Nat} {i j k n : Nat} (hi : i < n) (hj : j < n) : wnf (swf f i j) k n = wnf f k n := by
  have h1 := wnf_up (f := fun b => if b = i then f j else f b) (i := j) (v := f i) (k := k) n
  have h2 := wnf_up (f := f) (i := i) (v := f j) (k := k) n
  have e : (if j = i then f j else f j) = f j := by split <;> rfl
  simp only [hi, hj, true_and, e] at h1 h2
  have : swf f i j = (fun b => if b = j then f i else if b = i then f j else f b) := rfl
  rw [this]
  omega
def xo (x : Int32) : Int32 := ((x ^^^ (x <<< (13 &&& 31))) ^^^ ((Int32.toUInt32 (x ^^^ (x <<< (13 &&& 31))) >>> (Int32.toUInt32 17 &&& Int32.toUInt32 31)).toInt32)) ^^^ (((x ^^^ (x <<< (13 &&& 31))) ^^^ ((Int32.toUInt32 (x ^^^ (x <<< (13 &&& 31))) >>> (Int32.toUInt32 17 &&& Int32.toUInt32 31)).toInt32)) <<< (5 &&& 31))
def pkn (x : Int32) (n : Nat) : Nat := ((x &&& 2147483647) - (x &&& 2147483647) / nI n * nI n).toNatClampNeg
theorem pkn_eq (x : Int32) {n : Nat} (h0 : 0 < n) (hn : n < 1000) : (x &&& 2147483647) - (x &&& 2147483647) / nI n * nI n = nI (pkn x n) ∧ pkn x n < n := by
  obtain ⟨k, hk, rfl⟩ := wb_of32 x
  have e : nI k &&& 2147483647 = nI (k % 2 ^ 31) := by
    apply Int32.toBitVec_inj.mp
    show BitVec.ofNat 32 k &&& 2147483647#32 = BitVec.ofNat 32 (k % 2 ^ 31)
    apply BitVec.eq_of_toNat_eq
    rw [BitVec.toNat_and, BitVec.toNat_ofNat, BitVec.toNat_ofNat, BitVec.toNat_ofNat, Nat.mod_eq_of_lt hk, show 2147483647 % 2 ^ 32 = 2 ^ 31 - 1 from rfl, Nat.and_two_pow_sub_one_eq_mod]
    rw [Nat.mod_eq_of_lt (Nat.lt_of_lt_of_le (Nat.mod_lt k (by decide)) (by decide))]
  have hb : k % 2 ^ 31 < 2 ^ 31 := Nat.mod_lt k (by decide)
  have e2 : (nI k &&& 2147483647) - (nI k &&& 2147483647) / nI n * nI n = nI (k % 2 ^ 31 % n) := by
    rw [e]; exact pk_rem hb h0 (by omega)
  have hlt : k % 2 ^ 31 % n < n := Nat.mod_lt _ h0
  have e3 : pkn (nI k) n = k % 2 ^ 31 % n := by
    unfold pkn
    rw [e2, nI_clamp (by omega)]
  rw [e3]
  exact ⟨e2, hlt⟩
theorem w_isPlace {p : Nat} {m : zm} {K : Int32 → zm → Prop} (hp : p < 136) (k : K 1 m) : j_Wall_isPlace (nI p) m K :=
  ⟨fun h => absurd h (nI_n0 (by omega)), fun _ => ⟨fun h => by rw [show (136 : Int32) = nI 136 from rfl, pz_le (by omega) (by omega)] at h; omega, fun _ => ⟨Or.inr rfl, k⟩⟩⟩
theorem w_isPlaceF {a : Int32} {m : zm} {K : Int32 → zm → Prop} (ha : a < 0 ∨ nI 136 ≤ a) (k : K 0 m) : j_Wall_isPlace a m K :=
  ⟨fun _ => ⟨Or.inl rfl, k⟩, fun h => ⟨fun _ => ⟨Or.inl rfl, k⟩, fun h2 => (ha.elim h h2).elim⟩⟩
/-- two places change -/
def sw (S : zS) (i j : Nat) : zS := us (us S 0 i (S.1 0 j)) 0 j (S.1 0 i)
theorem sw_0 (S : zS) (i j : Nat) : (sw S i j).1 0 = swf (S.1 0) i j := by
  funext b
  unfold sw swf
  simp only [us_1, true_and]
theorem sw_n (S : zS) (i j a b : Nat) (h : ¬ a = 0) : (sw S i j).1 a b = S.1 a b := by
  unfold sw
  rw [us_1, us_1, if_neg (fun z => h z.1), if_neg (fun z => h z.1)]
theorem sw_2 (S : zS) (i j : Nat) : (sw S i j).2 = S.2 := rfl
theorem w_exchange {i j : Nat} {m m0 : zm} {S : zS} {K : zm → Prop} (R : Rc m S m0) (hi : i < 136) (hj : j < 136) (k : ∀ m', Rc m' (sw S i j) m0 → K m') : j_Wall_exchange (nI i) (nI j) m K := by
  refine w_isPlace hi ⟨fun z => absurd z (by decide), fun _ => w_isPlace hj ⟨fun z => absurd z (by decide), fun _ => ⟨pz_in hi (by omega), fun y5 h5 => ⟨pz_in hj (by omega), pz_in hi (by omega), ?_⟩⟩⟩⟩
  rw [nI_clamp (by omega)] at h5
  rw [nI_clamp (by omega), nI_clamp (by omega), R.g0 hj, h5, R.g0 hi]
  exact R.t0 hi (fun m R => ⟨pz_in hj (by omega), R.t0 hj (fun m R => k m R)⟩)
def stp (S : zS) (i : Nat) : zS := sw (ui S 31 0 (xo (S.2.1 31 0))) i (pkn (xo (S.2.1 31 0)) (i + 1))
def shs : Nat → zS → zS
  | 0, S => S
  | i + 1, S => shs i (stp S (i + 1))
def w0 (S : zS) (n : Nat) : zS := (fun a j => if a = 0 ∧ j < n then j / 4 else S.1 a j, S.2)
theorem w0_s (S : zS) (n : Nat) : us (w0 S n) 0 n (n / 4) = w0 S (n + 1) := by
  refine Prod.ext ?_ rfl
  funext a j
  rw [us_1]
  show (if a = 0 ∧ j = n then n / 4 else if a = 0 ∧ j < n then j / 4 else S.1 a j) = if a = 0 ∧ j < n + 1 then j / 4 else S.1 a j
  by_cases h1 : a = 0 ∧ j = n
  · rw [if_pos h1, if_pos (by omega), h1.2]
  · rw [if_neg h1]
    by_cases h2 : a = 0 ∧ j < n
    · rw [if_pos h2, if_pos (by omega)]
    · rw [if_neg h2, if_neg (by omega)]
theorem w0_0 (S : zS) : w0 S 0 = S := by
  refine Prod.ext ?_ rfl
  funext a j
  show (if a = 0 ∧ j < 0 then j / 4 else S.1 a j) = S.1 a j
  rw [if_neg (by omega)]
theorem w_pick {n : Nat} {m m0 : zm} {S : zS} {K : Int32 → zm → Prop} (R : Rc m S m0) (h0 : 0 < n) (hn : n < 1000) (k : ∀ m', Rc m' (ui S 31 0 (xo (S.2.1 31 0))) m0 → K (nI (pkn (xo (S.2.1 31 0)) n)) m') : j_Wall_pick (nI n) m K := by
  unfold j_Wall_pick
  rw [R.g31]
  refine R.t31 (fun m1 R => ?_)
  rw [R.g31]
  refine R.t31 (fun m2 R => ?_)
  rw [R.g31]
  refine R.t31 (fun m3 R => ⟨fun z => ?_, fun z => ⟨fun z => ?_, ?_⟩⟩)
  · rw [show (0 : Int32) = nI 0 from rfl, pz_le (by omega) (by omega)] at z; omega
  · rw [pz_0 (by omega)] at z; omega
  · show K ((m3.1 11 1 &&& 2147483647) - (m3.1 11 1 &&& 2147483647) / nI n * nI n) m3
    rw [R.g31]
    rw [ui_ui, ui_ui] at R
    have e : (ui (ui (ui S 31 0 (S.2.1 31 0 ^^^ S.2.1 31 0 <<< (13 &&& 31))) 31 0 ((ui S 31 0 (S.2.1 31 0 ^^^ S.2.1 31 0 <<< (13 &&& 31))).2.1 31 0 ^^^ (Int32.toUInt32 ((ui S 31 0 (S.2.1 31 0 ^^^ S.2.1 31 0 <<< (13 &&& 31))).2.1 31 0) >>> (Int32.toUInt32 17 &&& Int32.toUInt32 31)).toInt32)) 31 0 (xo (S.2.1 31 0))).2.1 31 0 = xo (S.2.1 31 0) := rfl
    show K ((xo (S.2.1 31 0) &&& 2147483647) - (xo (S.2.1 31 0) &&& 2147483647) / nI n * nI n) m3
    rw [(pkn_eq _ h0 hn).1]
    exact k m3 R
theorem w_Wall_shuffle {m m0 : zm} {S : zS} {K : zm → Prop} (R : Rc m S m0) (k : ∀ m', Rc m' (us (us (shs 135 (w0 S 136)) 20 0 52) 17 0 0) m0 → K m') : j_Wall_shuffle m K := by
  have two : ∀ (n : Nat) (m : zm) (T : zS), n < 136 → Rc m T m0 → (∀ m', Rc m' (us (us (shs n T) 20 0 52) 17 0 0) m0 → K m') → j_Wall_shuffle_L28 K (n + 1) (nI n) m := by
    intro n
    induction n with
    | zero =>
      intro m T _ R k
      rw [j_Wall_shuffle_L28]
      refine ⟨fun _ => R.t20 (v := 52) (fun m R => R.t17 (v := 0) (fun m R => k m R)), fun z => absurd (by decide) z⟩
    | succ n ih =>
      intro m T hn R k
      rw [j_Wall_shuffle_L28]
      refine ⟨fun z => ?_, fun _ => ?_⟩
      · rw [show (1 : Int32) = nI 1 from rfl, pz_lt (by omega) (by omega)] at z; omega
      · rw [nI_1]
        refine w_pick R (by omega) (by omega) (fun m' R => ?_)
        have hlt := (pkn_eq (xo (T.2.1 31 0)) (n := n + 1 + 1) (by omega) (by omega)).2
        refine w_exchange R hn (by omega) (fun m' R y8 h8 => ?_)
        have e : y8 = nI n := by rw [h8, ← Int32.sub_eq_add_neg]; exact nI_pred n
        rw [e]
        exact ih m' _ (by omega) R k
  have one : ∀ (n i : Nat) (m : zm), i + n = 136 → Rc m (w0 S i) m0 → j_Wall_shuffle_L2 K (n + 1) (nI i) m := by
    intro n
    induction n with
    | zero =>
      intro i m hi R
      have hi : i = 136 := by omega
      subst hi
      rw [j_Wall_shuffle_L2]
      exact ⟨fun _ => ⟨136, two 135 m _ (by omega) R k⟩, fun z => absurd (by decide) z⟩
    | succ n ih =>
      intro i m hi R
      rw [j_Wall_shuffle_L2]
      refine ⟨fun z => ?_, fun _ => ⟨pz_in (by omega) (by omega), ?_⟩⟩
      · rw [show (136 : Int32) = nI 136 from rfl, pz_le (by omega) (by omega)] at z; omega
      · rw [nI_clamp (by omega), pz_div4 (by omega)]
        refine R.t0 (by omega) (fun m R y2 h2 => ?_)
        rw [h2, nI_1]
        rw [w0_s] at R
        exact ih (i + 1) m (by omega) R
  exact ⟨137, one 136 0 m rfl (by rw [w0_0]; exact R)⟩
