/-! SETS OF BITS -/
theorem mk_tb (f : Nat → Bool) (n i : Nat) : (mk_ f n).testBit i = (decide (i < n) && f i) := by
  by_cases h : i < n
  · rw [mk_testBit h, decide_eq_true h, Bool.true_and]
  · have hp : 2 ^ n ≤ 2 ^ i := Nat.pow_le_pow_right (by omega) (by omega)
    rw [decide_eq_false h, Bool.false_and, Nat.testBit_lt_two_pow (Nat.lt_of_lt_of_le (mk_lt f n) hp)]
theorem mk_eq {x : Nat} {f : Nat → Bool} {n : Nat} (h : ∀ i, x.testBit i = (decide (i < n) && f i)) : x = mk_ f n :=
  Nat.eq_of_testBit_eq (fun i => by rw [h, mk_tb])
theorem mk_or2 (f g : Nat → Bool) (n : Nat) : mk_ f n ||| mk_ g n = mk_ (fun j => f j || g j) n := mk_eq (fun i => by
  rw [Nat.testBit_or, mk_tb, mk_tb]
  cases decide (i < n) <;> simp)
theorem mk_an2 (f g : Nat → Bool) {n k : Nat} (h : n ≤ k) : mk_ f n &&& mk_ g k = mk_ (fun j => f j && g j) n := mk_eq (fun i => by
  rw [Nat.testBit_and, mk_tb, mk_tb]
  by_cases q : i < n
  · rw [decide_eq_true q, decide_eq_true (show i < k by omega)]; simp
  · rw [decide_eq_false q]; simp)
theorem mk_dv (f : Nat → Bool) (n k : Nat) : mk_ f n / 2 ^ k = mk_ (fun j => f (j + k)) (n - k) := mk_eq (fun i => by
  rw [Nat.testBit_div_two_pow, mk_tb]
  congr 1
  by_cases q : i + k < n
  · rw [decide_eq_true q, decide_eq_true (show i < n - k by omega)]
  · rw [decide_eq_false q, decide_eq_false (show ¬ i < n - k by omega)])
theorem mk_ml (f : Nat → Bool) (n k : Nat) : mk_ f n * 2 ^ k = mk_ (fun j => decide (k ≤ j) && f (j - k)) (n + k) := mk_eq (fun i => by
  rw [Nat.testBit_mul_two_pow, mk_tb]
  by_cases q : k ≤ i
  · rw [decide_eq_true q]
    by_cases q2 : i - k < n
    · rw [decide_eq_true q2, decide_eq_true (show i < n + k by omega)]
    · rw [decide_eq_false q2, decide_eq_false (show ¬ i < n + k by omega)]; simp
  · rw [decide_eq_false q]; simp)
theorem mk_z {f : Nat → Bool} {n : Nat} : mk_ f n = 0 ↔ ∀ k, k < n → f k = false := by
  have h0 : mk_ (fun _ => false) n = 0 := mk_0 (fun _ _ => rfl)
  rw [← h0]
  exact mk_inj
theorem mk_c {f g : Nat → Bool} {n : Nat} (h : ∀ k, k < n → f k = g k) : mk_ f n = mk_ g n := mk_inj.mpr h
/-- the long of a set of yaku -/
def lY (f : Nat → Bool) : Int64 := lN (mk_ f 42)
theorem lY_lt (f : Nat → Bool) : mk_ f 42 < 2 ^ 62 := Nat.lt_trans (mk_lt f 42) (by decide)
theorem lY_or (f g : Nat → Bool) : lY f ||| lY g = lY (fun j => f j || g j) := by
  unfold lY
  rw [wb_or (Nat.lt_trans (mk_lt f 42) (by decide)) (Nat.lt_trans (mk_lt g 42) (by decide)), mk_or2]
theorem lY_c {f g : Nat → Bool} (h : ∀ k, k < 42 → f k = g k) : lY f = lY g := by unfold lY; rw [mk_c h]
theorem lY_0 : lY (fun _ => false) = 0 := by unfold lY; rw [mk_0 (fun _ _ => rfl)]; rfl
theorem lY_1 {y : Nat} (hy : y < 42) : (1 : Int64) <<< ((nI y).toInt64 &&& 63) = lY (fun j => j == y) := by
  have e : mk_ (fun j => j == y) 42 = 2 ^ y := (mk_eq (fun i => by
    rw [Nat.testBit_two_pow]
    by_cases q : y = i
    · subst q; simp [hy]
    · rw [decide_eq_false q]
      have : (i == y) = false := by simp; omega
      rw [this, Bool.and_false])).symm
  unfold lY
  rw [e, show (1 : Int64) = lN 1 from rfl, wb_shl 1 (by omega), Nat.one_mul]
def one_ (b : Bool) (y : Nat) : Nat → Bool := fun j => b && j == y
theorem lY_b {b : Bool} {y : Nat} (hy : y < 42) : lY (one_ b y) = if b = true then (1 : Int64) <<< ((nI y).toInt64 &&& 63) else 0 := by
  cases b
  · rw [if_neg (by decide), ← lY_0]
    exact lY_c (fun _ _ => rfl)
  · rw [if_pos rfl, lY_1 hy]
    exact lY_c (fun _ _ => rfl)
theorem w_bitIf {b : Bool} {y : Nat} {m : zm} {K : Int64 → zm → Prop} (hy : y < 42) (k : K (lY (one_ b y)) m) : j_Judge_bitIf (bI b) (nI y) m K := by
  unfold j_Judge_bitIf j_Judge_bitIf_L11
  rw [bI_0]
  rw [lY_b hy] at k
  refine ⟨fun h => ?_, fun h => ?_⟩
  · rw [h, if_neg (by decide)] at k; exact k
  · rw [if_pos (ts_nf h)] at k; exact k
theorem w_bit {b : Bool} {y : Nat} {m : zm} {K : Int64 → zm → Prop} (hy : y < 42) (k : K (lY (one_ b y)) m) : j_Model_bit (bI b) (nI y) m K := by
  unfold j_Model_bit j_Model_bit_L11
  rw [bI_0]
  rw [lY_b hy] at k
  refine ⟨fun h => ?_, fun h => ?_⟩
  · rw [h, if_neg (by decide)] at k; exact k
  · rw [if_pos (ts_nf h)] at k; exact k
/-- the y-th bit -/
theorem lY_bit {f : Nat → Bool} {y : Nat} (hy : y < 42) : (lg_cmp ((lY f >>> ((nI y).toInt64 &&& 63)) &&& 1) 0 = 0) = (f y = false) := by
  unfold lY
  rw [pz_lbit0 (lY_lt f) (by omega), mk_testBit hy]
theorem lY_bit1 {f : Nat → Bool} {y : Nat} (hy : y < 42) : (lg_cmp ((lY f >>> ((nI y).toInt64 &&& 63)) &&& 1) 1 = 0) = (f y = true) := by
  unfold lY
  rw [pz_lbit1 (lY_lt f) (by omega), mk_testBit hy]
/-- only limits -/
def lmt (f : Nat → Bool) : Nat → Bool := fun j => f j && decide (30 ≤ j)
theorem sh30 : ((Int32.toInt64 30 &&& 63) : Int64) = ((nI 30).toInt64 &&& 63) := rfl
theorem lY_30 (f : Nat → Bool) : lY f >>> (Int32.toInt64 30 &&& 63) = lN (mk_ (fun j => f (j + 30)) 12) := by
  unfold lY
  rw [sh30, pf_shr (pz_d63 30 (by omega)) (lY_lt f), mk_dv]
theorem lY_3030 (f : Nat → Bool) : lY f >>> (Int32.toInt64 30 &&& 63) <<< (Int32.toInt64 30 &&& 63) = lY (lmt f) := by
  rw [lY_30, sh30, wb_shl _ (by omega), mk_ml, show 12 + 30 = 42 from rfl]
  unfold lY
  refine congrArg lN (mk_c (fun j hj => ?_))
  unfold lmt
  by_cases q : 30 ≤ j
  · rw [decide_eq_true q, show j - 30 + 30 = j by omega, Bool.true_and, Bool.and_true]
  · rw [decide_eq_false q, Bool.false_and, Bool.and_false]
theorem lY_z (f : Nat → Bool) : (lY f = 0) = (∀ k, k < 42 → f k = false) := by
  unfold lY
  rw [lN_0 (lY_lt f)]
  exact propext mk_z
theorem lmt_z (f : Nat → Bool) : (∀ k, k < 42 → lmt f k = false) ↔ ¬ lim_ f := by
  refine ⟨fun h ⟨y, h1, h2, h3⟩ => ?_, fun h k hk => ?_⟩
  · have := h y h2
    unfold lmt at this
    rw [h3, decide_eq_true h1] at this
    cases this
  · unfold lmt
    cases q : f k
    · rfl
    · by_cases q2 : 30 ≤ k
      · exact absurd ⟨k, q2, hk, q⟩ h
      · rw [decide_eq_false q2]; rfl
theorem lim_30 (f : Nat → Bool) : (lN (mk_ (fun j => f (j + 30)) 12) = 0) = ¬ lim_ f := by
  rw [lN_0 (Nat.lt_trans (mk_lt _ 12) (by decide))]
  refine propext ⟨fun h ⟨y, h1, h2, h3⟩ => ?_, fun h => mk_z.mpr (fun k hk => ?_)⟩
  · have := mk_z.mp h (y - 30) (by omega)
    simp only [show y - 30 + 30 = y by omega] at this
    rw [h3] at this
    cases this
  · cases q : f (k + 30)
    · rfl
    · exact absurd ⟨k + 30, by omega, by omega, q⟩ h
/-! readings compared: the greatest so far -/
noncomputable def up_ (u v : zV) : zV := if bb (v.2.2.2 = 0 ∨ vle v u) = true then u else v
theorem Gr.up {P : zV → Prop} {u v : zV} (h : Gr P u) : Gr (fun w => P w ∨ (w = v ∧ ¬ v.2.2.2 = 0)) (up_ u v) := by
  unfold up_
  by_cases q : v.2.2.2 = 0 ∨ vle v u
  · rw [if_pos (bb_t q)]
    rcases h with ⟨a, b⟩ | ⟨a, b⟩
    · refine Or.inl ⟨Or.inl a, fun w hw => ?_⟩
      rcases hw with hw | ⟨hw, hn⟩
      · exact b w hw
      · rw [hw]
        rcases q with q | q
        · exact absurd q hn
        · exact q
    · refine Or.inr ⟨fun w hw => ?_, b⟩
      rcases hw with hw | ⟨hw, hn⟩
      · exact a w hw
      · rcases q with q | q
        · exact hn q
        · rw [b] at q
          unfold vle at q
          simp only at q
          omega
  · rw [if_neg (fun z => q (bb_iff.mp z))]
    have hn : ¬ v.2.2.2 = 0 := fun z => q (Or.inl z)
    have hl : vle u v := by
      rcases vle.or v u with z | z
      · exact absurd (Or.inr z) q
      · exact z
    rcases h with ⟨a, b⟩ | ⟨a, b⟩
    · refine Or.inl ⟨Or.inr ⟨rfl, hn⟩, fun w hw => ?_⟩
      rcases hw with hw | ⟨hw, _⟩
      · exact (b w hw).tr hl
      · rw [hw]; exact vle.rf v
    · refine Or.inl ⟨Or.inr ⟨rfl, hn⟩, fun w hw => ?_⟩
      rcases hw with hw | ⟨hw, _⟩
      · exact absurd hw (a w)
      · rw [hw]; exact vle.rf v
theorem Gr.c {P Q : zV → Prop} {u : zV} (h : Gr P u) (e : ∀ w, P w ↔ Q w) : Gr Q u := by
  rcases h with ⟨a, b⟩ | ⟨a, b⟩
  · exact Or.inl ⟨(e u).mp a, fun w hw => b w ((e w).mpr hw)⟩
  · exact Or.inr ⟨fun w hw => a w ((e w).mpr hw), b⟩
theorem Gr.e : Gr (fun _ => False) (0, 0, 0, 0) := Or.inr ⟨fun _ h => h, rfl⟩
