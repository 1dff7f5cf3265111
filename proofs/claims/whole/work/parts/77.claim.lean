/-! CLAIMS -/
def an' (S : zS) (p x : Nat) (y : Int32) : Prop := x = 0 ∨ (¬ p = S.1 14 0 ∧ ((x = 4 ∧ ¬ (jd S p false).2.2.2 = 0) ∨ (S.1 15 0 = 0 ∧ S.1 6 p = 0 ∧ 0 < lft S ∧ ((x = 1 ∧ p = (S.1 14 0 + 1) % 4 ∧ ∃ lo, y = nI lo ∧ hr S p lo) ∨ (x = 2 ∧ 2 ≤ cf S p (til S)) ∨ (x = 3 ∧ 3 ≤ cf S p (til S) ∧ S.1 17 0 < 4)))))
theorem an_e (S : zS) (p : Nat) : an_ S p = an' S p (S.1 10 p) (S.2.1 32 p) := rfl
theorem an'_c {S T : zS} {p x : Nat} {y : Int32} (e : Ej T S) (h14 : T.1 14 = S.1 14) : an' T p x y = an' S p x y := by
  have hx : ∀ lo, hr T p lo = hr S p lo := fun lo => hr_c (e 1 (by omega) (by omega)) (e 21 (by omega) (by omega))
  unfold an'
  simp only [hx]
  rw [h14, jd_c e, e 15 (by omega) (by omega), e 6 (by omega) (by omega), lft_c2 (e 17 (by omega) (by omega)) (e 20 (by omega) (by omega)), cf_c (e 1 (by omega) (by omega)), til_c (e 21 (by omega) (by omega)), e 17 (by omega) (by omega)]
/-- what the answer w with low c needs -/
def aok (S : zS) (p w : Nat) (c : Int32) : Prop := w = 0 ∨ (w = 1 ∧ op_ S p / 2 % 2 = 1 ∧ ∃ lo, c = nI lo ∧ hr S p lo) ∨ (w = 2 ∧ op_ S p / 4 % 2 = 1) ∨ (w = 3 ∧ op_ S p / 8 % 2 = 1) ∨ (w = 4 ∧ op_ S p / 16 % 2 = 1)
theorem aok_an {S : zS} {p w : Nat} {c : Int32} (B : Bd S) (h : aok S p w c) : an' S p w c := by
  have b15 := B.b15 0
  have l16 := tk_lt S p
  have h14 : ¬ op_ S p = 0 → ¬ p = S.1 14 0 := fun z e => z (by unfold op_; rw [if_pos e])
  have htk : ¬ p = S.1 14 0 → op_ S p = tk_ S p + (if bb (¬ (jd S p false).2.2.2 = 0 ∧ ¬ frt S p) = true then 16 else 0) := fun e => by unfold op_; rw [if_neg e]
  have hb : ¬ p = S.1 14 0 → op_ S p % 16 = tk_ S p := fun e => by
    rw [htk e]
    split <;> omega
  have hg : ¬ tk_ S p = 0 → S.1 15 0 = 0 ∧ S.1 6 p = 0 ∧ 0 < lft S ∧ tk_ S p = (if 2 ≤ cf S p (til S) then 4 else 0) + (if 3 ≤ cf S p (til S) ∧ S.1 17 0 < 4 then 8 else 0) + (if p = (S.1 14 0 + 1) % 4 ∧ bb (∃ lo, hr S p lo) = true then 2 else 0) := fun z => by
    by_cases q : S.1 15 0 = 1 ∨ ¬ S.1 6 p = 0 ∨ lft S = 0
    · exact absurd (if_pos q) z
    · refine ⟨by omega, by omega, by omega, ?_⟩
      exact if_neg q
  rcases h with h | ⟨h, h2, h3⟩ | ⟨h, h2⟩ | ⟨h, h2⟩ | ⟨h, h2⟩
  · exact Or.inl h
  · have n14 := h14 (by omega)
    have e := hb n14
    obtain ⟨a, b, d, t⟩ := hg (by omega)
    refine Or.inr ⟨n14, Or.inr ⟨a, b, d, Or.inl ⟨h, ?_, h3⟩⟩⟩
    refine Classical.byContradiction (fun z => ?_)
    rw [if_neg (c := p = (S.1 14 0 + 1) % 4 ∧ _) (fun q => z q.1)] at t
    split at t <;> split at t <;> omega
  · have n14 := h14 (by omega)
    have e := hb n14
    obtain ⟨a, b, d, t⟩ := hg (by omega)
    refine Or.inr ⟨n14, Or.inr ⟨a, b, d, Or.inr (Or.inl ⟨h, ?_⟩)⟩⟩
    refine Classical.byContradiction (fun z => ?_)
    rw [if_neg (c := 2 ≤ cf S p (til S)) z] at t
    split at t <;> split at t <;> omega
  · have n14 := h14 (by omega)
    have e := hb n14
    obtain ⟨a, b, d, t⟩ := hg (by omega)
    refine Or.inr ⟨n14, Or.inr ⟨a, b, d, Or.inr (Or.inr ⟨h, ?_⟩)⟩⟩
    refine Classical.byContradiction (fun z => ?_)
    rw [if_neg (c := 3 ≤ cf S p (til S) ∧ S.1 17 0 < 4) z] at t
    split at t <;> split at t <;> omega
  · have n14 := h14 (by omega)
    have e := htk n14
    refine Or.inr ⟨n14, Or.inl ⟨h, ?_⟩⟩
    by_cases z : bb (¬ (jd S p false).2.2.2 = 0 ∧ ¬ frt S p) = true
    · exact (bb_iff.mp z).1
    · rw [if_neg z] at e
      omega
def ckS (S : zS) (p w : Nat) (c : Int32) : zS := us (ui (us S 10 p w) 32 p c) 9 p 0
theorem ck_f {S : zS} {p w a : Nat} {c : Int32} (h : ¬ a = 9) (h2 : ¬ a = 10) : (ckS S p w c).1 a = S.1 a := by
  funext j
  show (if a = 9 ∧ j = p then 0 else if a = 10 ∧ j = p then w else S.1 a j) = _
  rw [if_neg (by omega), if_neg (by omega)]
theorem ck_9 {S : zS} {p w q : Nat} {c : Int32} : (ckS S p w c).1 9 q = if q = p then 0 else S.1 9 q := by
  show (if 9 = 9 ∧ q = p then 0 else if 9 = 10 ∧ q = p then w else S.1 9 q) = _
  by_cases h : q = p
  · rw [if_pos ⟨rfl, h⟩, if_pos h]
  · rw [if_neg (fun z => h z.2), if_neg (by omega), if_neg h]
theorem ck_10 {S : zS} {p w q : Nat} {c : Int32} : (ckS S p w c).1 10 q = if q = p then w else S.1 10 q := by
  show (if 10 = 9 ∧ q = p then 0 else if 10 = 10 ∧ q = p then w else S.1 10 q) = _
  by_cases h : q = p
  · rw [if_neg (by omega), if_pos ⟨rfl, h⟩, if_pos h]
  · rw [if_neg (by omega), if_neg (fun z => h z.2), if_neg h]
theorem ck_32 {S : zS} {p w q : Nat} {c : Int32} : (ckS S p w c).2.1 32 q = if q = p then c else S.2.1 32 q := by
  show (if 32 = 32 ∧ q = p then c else S.2.1 32 q) = _
  by_cases h : q = p
  · rw [if_pos ⟨rfl, h⟩, if_pos h]
  · rw [if_neg (fun z => h z.2), if_neg h]
theorem ck_i {S : zS} {p w a : Nat} {c : Int32} (h : ¬ a = 32) : (ckS S p w c).2.1 a = S.2.1 a := by
  funext q
  show (if a = 32 ∧ q = p then c else S.2.1 a q) = _
  rw [if_neg (fun z => h z.1)]
theorem ck_B {S : zS} {p w : Nat} {c : Int32} (B : Bd S) (hw : w ≤ 4) : Bd (ckS S p w c) := Bd.u (Bd.ui (Bd.u B hw)) (Nat.zero_le _)
theorem ck_an {S : zS} {p w : Nat} {c : Int32} (W : Wf S) (h11 : S.1 11 0 = 2) (h : aok S p w c) : ∀ q, q < 4 → an_ (ckS S p w c) q := by
  intro q hq
  obtain ⟨_, _, an⟩ := W.2.2.2.2.2.2.2.2 h11
  have ej : Ej (ckS S p w c) S := fun a _ z => ck_f (by omega) (by omega)
  rw [an_e, an'_c ej (ck_f (by omega) (by omega)), ck_10, ck_32]
  by_cases e : q = p
  · rw [if_pos e, if_pos e, e]
    exact aok_an W.1 h
  · rw [if_neg e, if_neg e, ← an_e]
    exact (an q hq).2
theorem ck_Wf {S : zS} {p w : Nat} {c : Int32} (W : Wf S) (h11 : S.1 11 0 = 2) (hp : p < 4) (hw : w ≤ 4) (h : aok S p w c) : Wf (ckS S p w c) := by
  have ak := ck_an W h11 h
  obtain ⟨B, M, ww, r, ⟨wc, p1, p2, p3, p4⟩, ss, o, w1, w2⟩ := W
  obtain ⟨w2, h29, an⟩ := w2 h11
  have f : ∀ a, ¬ a = 9 → ¬ a = 10 → (ckS S p w c).1 a = S.1 a := fun a h1 h2 => ck_f h1 h2
  have e11 : (ckS S p w c).1 11 0 = 2 := h11
  refine ⟨ck_B B hw, M.c (f 3 (by omega) (by omega)) (f 22 (by omega) (by omega)) (f 23 (by omega) (by omega)), ww.c (ck_i (by omega)) (ck_i (by omega)) rfl, r.c (f 2 (by omega) (by omega)) (f 3 (by omega) (by omega)) (f 4 (by omega) (by omega)) (f 5 (by omega) (by omega)) (f 6 (by omega) (by omega)) (f 7 (by omega) (by omega)) rfl, ⟨fun k hk => ?_, by rw [f 20 (by omega) (by omega)]; exact p1, by rw [f 20 (by omega) (by omega), f 17 (by omega) (by omega)]; exact p2, fun _ => by rw [f 25 (by omega) (by omega), f 20 (by omega) (by omega)]; exact p3 (by omega), fun z => by rw [e11] at z; omega⟩, fun _ q hq => ?_, fun z => absurd e11 z, fun z => by rw [e11] at z; omega, fun _ => ⟨w2.c (fun a z => f a (by omega) (by omega)), h29, fun q hq => ⟨?_, ak q hq⟩⟩⟩
  · unfold wn; rw [f 0 (by omega) (by omega)]; exact wc k hk
  · rw [ssm_c (S := S) (f 1 (by omega) (by omega)) (f 2 (by omega) (by omega))]; exact Or.inl (w2.1 q hq)
  · rw [ck_9, op_c (S := S) (fun a _ z => f a (by omega) (by omega)) (f 14 (by omega) (by omega)) (f 5 (by omega) (by omega)) (f 8 (by omega) (by omega))]
    by_cases e : q = p
    · rw [if_pos e]; exact Or.inl rfl
    · rw [if_neg e]; exact (an q hq).1
theorem ck_Wh {S : zS} {p w : Nat} {c : Int32} (W : Wf S) (h11 : S.1 11 0 = 2) (hp : p < 4) (hw : w ≤ 4) (h : aok S p w c) (h0 : ∀ q, q < 4 → (ckS S p w c).1 9 q = 0) : Wh (ckS S p w c) := by
  have ak := ck_an W h11 h
  obtain ⟨B, M, ww, r, ⟨wc, p1, p2, p3, p4⟩, _, _, _, wf2⟩ := ck_Wf W h11 hp hw h
  obtain ⟨w2, _, _⟩ := wf2 (show (ckS S p w c).1 11 0 = 2 from h11)
  exact ⟨⟨B, M, ww, r, wc, p1, p2, p3 (by show ¬ S.1 11 0 = 0; omega), h0⟩, w2.1, w2.2.1, w2.2.2.1, w2.2.2.2.1, w2.2.2.2.2.1, ak⟩
theorem and_b : ∀ v, v < 32 → ((nI v &&& 2 = 0) ↔ v / 2 % 2 = 0) ∧ ((nI v &&& 4 = 0) ↔ v / 4 % 2 = 0) ∧ ((nI v &&& 8 = 0) ↔ v / 8 % 2 = 0) ∧ ((nI v &&& 16 = 0) ↔ v / 16 % 2 = 0) := by decide +kernel
theorem shr_b : ∀ v, v < 32 → ∀ w, w < 5 → (((nI v >>> (nI w &&& 31)) &&& 1 = 0) ↔ v / 2 ^ w % 2 = 0) := by decide +kernel
theorem ti_n {w : Nat} (hw : w < 1000) : (nI w).toInt = w := nI_toInt (by omega)
theorem w_mayAnswer {p w t : Nat} {c : Int32} {m m0 : zm} {S : zS} {K : Int32 → zm → Prop} (R : Rc m S m0) (B : Bd S) (hp : p < 4) (hw : w < 5) (h21 : S.1 21 0 = t + 1) (h9 : S.1 9 p = op_ S p) (hT : aok S p w c → K 1 m) (hF : ¬ aok S p w c → K 0 m) : j_Table_mayAnswer (13 + 5 * p) (nI w) c m K := by
  have b21 := B.b21 0
  have l32 := op_lt S p
  have ht : til S = t := by unfold til; omega
  have g9 : m.1 0 9 = nI t := by rw [R.g21, h21, nI_pred]
  obtain ⟨a1, a2, a3, a4⟩ := and_b (op_ S p) l32
  unfold j_Table_mayAnswer j_Table_mayAnswer_L63 j_Table_mayAnswer_L64 j_Table_mayAnswer_L79 j_Table_mayAnswer_L95 j_Table_mayAnswer_L111
  rw [R.g9 hp, h9, g9, propext a1, propext a2, propext a3, propext a4]
  have e : ∀ x : Nat, x < 5 → ((nI w = nI x) = (w = x)) := fun x hx => pz_eq (by omega) (by omega)
  refine ⟨fun z => ?_, fun z => ?_, fun z => ?_, fun z => ?_, fun z => ?_, fun z => ?_⟩
  · exfalso
    rw [ti_n (by omega)] at z
    omega
  · rw [show (0 : Int32) = nI 0 from rfl, e 0 (by omega)] at z
    exact hT (Or.inl z)
  · rw [show (1 : Int32) = nI 1 from rfl, e 1 (by omega)] at z
    subst z
    refine ⟨fun h => ⟨Or.inl rfl, hF (fun q => ?_)⟩, fun h => w_hasRest R B hp ht (by omega) (fun hx => ⟨fun q => absurd q (by decide), fun _ => ⟨Or.inr rfl, hT (Or.inr (Or.inl ⟨rfl, by omega, hx⟩))⟩⟩) (fun hx => ⟨fun _ => ⟨Or.inl rfl, hF (fun q => ?_)⟩, fun q => absurd rfl q⟩)⟩
    · unfold aok at q; omega
    · unfold aok at q
      rcases q with q | ⟨_, _, q⟩ | q | q | q
      · omega
      · exact hx q
      · omega
      · omega
      · omega
  · rw [show (2 : Int32) = nI 2 from rfl, e 2 (by omega)] at z
    subst z
    exact ⟨fun h => ⟨Or.inl rfl, hF (fun q => by unfold aok at q; omega)⟩, fun h => ⟨Or.inr rfl, hT (Or.inr (Or.inr (Or.inl ⟨rfl, by omega⟩)))⟩⟩
  · rw [show (3 : Int32) = nI 3 from rfl, e 3 (by omega)] at z
    subst z
    exact ⟨fun h => ⟨Or.inl rfl, hF (fun q => by unfold aok at q; omega)⟩, fun h => ⟨Or.inr rfl, hT (Or.inr (Or.inr (Or.inr (Or.inl ⟨rfl, by omega⟩))))⟩⟩
  · rw [show (4 : Int32) = nI 4 from rfl, e 4 (by omega)] at z
    subst z
    exact ⟨fun h => ⟨Or.inl rfl, hF (fun q => by unfold aok at q; omega)⟩, fun h => ⟨Or.inr rfl, hT (Or.inr (Or.inr (Or.inr (Or.inr ⟨rfl, by omega⟩))))⟩⟩
theorem c_claim {p w : Nat} {c : Int32} {m m0 : zm} {S : zS} {K : Int32 → zm → Prop} (R : Rc m S m0) (W : Wf S) (h11 : S.1 11 0 = 2) (hp : p < 4) (hw : w < 5) (kN : (S.1 9 p = 0 ∨ ¬ aok S p w c) → K (-1) m)
    (k1 : ¬ S.1 9 p = 0 → aok S p w c → (¬ ∀ q, q < 4 → (ckS S p w c).1 9 q = 0) → ∀ m', Rc m' (ckS S p w c) m0 → K (m'.1 0 3) m')
    (k0 : ¬ S.1 9 p = 0 → aok S p w c → (∀ q, q < 4 → (ckS S p w c).1 9 q = 0) → ∀ m', Rc m' (ckS S p w c) m0 → j_Table_settle m' (fun m12 => K (m12.1 0 3) m12)) : j_Table_claim (nI p) (nI w) c m K := by
  have B := W.1
  have b9 := B.b9 p
  obtain ⟨w2, h29, an⟩ := W.2.2.2.2.2.2.2.2 h11
  have h21 : S.1 21 0 = til S + 1 := by have := w2.2.2.2.1; unfold til; omega
  unfold j_Table_claim
  rw [show (m.1 0 3 = 2) = (S.1 11 0 = 2) from ph_eq B R.g11 2 (by omega)]
  refine ⟨fun z => absurd h11 z, fun _ => w_isPlayer hp ⟨fun _ => ⟨pz_in hp (by omega), fun y hy => ?_⟩, fun z => absurd z (by decide)⟩⟩
  rw [nI_clamp (by omega)] at hy
  subst hy
  rw [R.g9 hp, pz_0 (by omega)]
  refine ⟨fun h => kN (Or.inl h), fun h9 => ?_⟩
  have e9 : S.1 9 p = op_ S p := by
    rcases (an p hp).1 with z | z
    · exact absurd z h9
    · exact z
  refine w_mayAnswer R B hp hw h21 e9 (fun ok => ⟨fun _ => ?_, fun z => absurd z (by decide)⟩) (fun no => ⟨fun z => absurd rfl z, fun _ => kN (Or.inr no)⟩)
  refine R.t10 hp (fun m1 R => R.t32 hp (fun m2 R => R.t9 hp (v := 0) (fun m3 R => ?_)))
  exact w_missing R (ck_B B (by omega)) (fun h => ⟨fun z => absurd rfl z, fun _ => k0 h9 ok h m3 R⟩) (fun h => ⟨fun _ => k1 h9 ok h m3 R, fun z => absurd z (by decide)⟩)
theorem r_claim {p w : Nat} {c : Int32} {m m0 : zm} {S : zS} {K : Int32 → zm → Prop} (R : Rr m S m0) (W : Wf S) (h11 : S.1 11 0 = 2) (hp : p < 4) (hw : w < 5) (kN : (S.1 9 p = 0 ∨ ¬ aok S p w c) → K (-1) m)
    (k1 : ¬ S.1 9 p = 0 → aok S p w c → (¬ ∀ q, q < 4 → (ckS S p w c).1 9 q = 0) → ∀ m', Rr m' (ckS S p w c) m0 → K (m'.1 33 3) m')
    (k0 : ¬ S.1 9 p = 0 → aok S p w c → (∀ q, q < 4 → (ckS S p w c).1 9 q = 0) → ∀ m', Rr m' (ckS S p w c) m0 → j_Model_settle m' (fun m12 => K (m12.1 33 3) m12)) : j_Model_claim (nI p) (nI w) c m K := by
  have B := W.1
  have b9 := B.b9 p
  have b21 := B.b21 0
  obtain ⟨w2, h29, an⟩ := W.2.2.2.2.2.2.2.2 h11
  have h34 := til_lt B w2.2.2.2.1
  have h27 := w2.2.2.2.2.1
  have l32 := op_lt S p
  unfold j_Model_claim
  rw [show (m.1 33 3 = 2) = (S.1 11 0 = 2) from ph_eq B R.g11 2 (by omega), nI_clamp (by omega), R.g9 hp, pz_0 (by omega), show (nI w ≤ (4 : Int32)) = (w ≤ 4) from pz_le (b := 4) (by omega) (by omega), show (nI w ≤ (0 : Int32)) = (w ≤ 0) from pz_le (b := 0) (by omega) (by omega), propext (shr_b (S.1 9 p) (by omega) w hw)]
  refine ⟨fun z => absurd h11 z, fun _ => ⟨fun z => absurd z (nI_n0 (by omega)), fun _ => ⟨fun z => absurd z (ar_3 hp), fun _ => ⟨pz_in hp (by omega), fun h => kN (Or.inl h), fun h9 => ⟨fun z => absurd z (nI_n0 (by omega)), fun _ => ⟨fun _ => ?_, fun z => by omega⟩⟩⟩⟩⟩⟩
  have e9 : S.1 9 p = op_ S p := by
    rcases (an p hp).1 with z | z
    · exact absurd z h9
    · exact z
  have l74 : aok S p w c → j_Model_claim_L74 (nI p) (nI w) c K m := by
    intro ok
    unfold j_Model_claim_L74
    rw [nI_clamp (by omega)]
    refine ⟨pz_in hp (by omega), R.t9 hp (v := 0) (fun m1 R => ⟨pz_in hp (by omega), R.t10 hp (fun m2 R => ⟨pz_in hp (by omega), R.t32 hp (fun m3 R => ?_)⟩)⟩)⟩
    have R : Rr m3 (ckS S p w c) m0 := by
      refine Eq.mp (congrArg (fun T => Rr m3 T m0) ?_) R
      rw [ui_us, ui_us, us_cm _ (by omega : ¬ (9 = 10 ∧ p = p))]
      rfl
    have z0 : Int32.toNatClampNeg 0 = 0 := rfl
    have z1 : Int32.toNatClampNeg 1 = 1 := rfl
    have z2 : Int32.toNatClampNeg 2 = 2 := rfl
    have z3 : Int32.toNatClampNeg 3 = 3 := rfl
    have Bc := ck_B (p := p) (c := c) B (show w ≤ 4 by omega)
    have d0 := Bc.b9 0
    have d1 := Bc.b9 1
    have d2 := Bc.b9 2
    have d3 := Bc.b9 3
    rw [z0, z1, z2, z3, R.g9 (p := 0) (by omega), R.g9 (p := 1) (by omega), R.g9 (p := 2) (by omega), R.g9 (p := 3) (by omega), nI_add, nI_add, nI_add, pz_0 (by omega)]
    refine ⟨fun h => k1 h9 ok (fun z => h ?_) m3 R, fun h => k0 h9 ok (fun q hq => ?_) m3 R⟩
    · rw [z 0 (by omega), z 1 (by omega), z 2 (by omega), z 3 (by omega)]
    · rcases (show q = 0 ∨ q = 1 ∨ q = 2 ∨ q = 3 by omega) with e | e | e | e <;> rw [e] <;> omega
  have l54 : (w = 0 ∨ op_ S p / 2 ^ w % 2 = 1) → j_Model_claim_L54 (nI p) (nI w) c K m := by
    intro hb
    unfold j_Model_claim_L54 j_Model_claim_L72
    rw [show (nI w = 1) = (w = 1) from pz_eq (b := 1) (by omega) (by omega), R.g27, h27]
    refine ⟨fun h => l74 ?_, fun h => w_canRun R B hp rfl h34 (fun hx => ⟨fun _ => l74 ?_, fun z => absurd z (by decide)⟩) (fun hx => ⟨fun z => absurd rfl z, fun _ => kN (Or.inr (fun q => ?_))⟩)⟩
    · unfold aok
      rcases (show w = 0 ∨ w = 2 ∨ w = 3 ∨ w = 4 by omega) with e | e | e | e
      · exact Or.inl e
      · subst e; exact Or.inr (Or.inr (Or.inl ⟨rfl, by omega⟩))
      · subst e; exact Or.inr (Or.inr (Or.inr (Or.inl ⟨rfl, by omega⟩)))
      · subst e; exact Or.inr (Or.inr (Or.inr (Or.inr ⟨rfl, by omega⟩)))
    · subst h
      exact Or.inr (Or.inl ⟨rfl, by omega, hx⟩)
    · subst h
      unfold aok at q
      rcases q with q | ⟨_, _, q⟩ | q | q | q
      · omega
      · exact hx q
      · omega
      · omega
      · omega
  refine ⟨fun h => l54 (Or.inl (by omega)), fun h => ⟨pz_in hp (by omega), fun hb => kN (Or.inr (fun q => ?_)), fun hb => l54 (Or.inr ?_)⟩⟩
  · rw [e9] at hb
    unfold aok at q
    rcases q with q | ⟨e, q, _⟩ | ⟨e, q⟩ | ⟨e, q⟩ | ⟨e, q⟩
    · omega
    · subst e; omega
    · subst e; omega
    · subst e; omega
    · subst e; omega
  · rw [e9] at hb
    omega
theorem q_claim (J : Jg) {a b c : Int32} {m : zm} (I : Inv m) {F : Prop → Prop} (hF : ∀ P, P → F P) {K : Int32 → Int32 → zm → Prop} (hK : ∀ r m', Inv m' → K r r m') : j_Table_claim a b c m (fun r1 m1 => F (j_Model_claim a b c m1 (fun r2 m2 => K r1 r2 m2))) := by
  have I' := I
  obtain ⟨S, R, Q, W⟩ := I
  have B := W.1
  by_cases h11 : S.1 11 0 = 2
  · rcases ar_or (n := 4) (by omega) a with ⟨p, hp, e⟩ | ha
    · subst e
      rcases ar_or (n := 5) (by omega) b with ⟨w, hw, e⟩ | hb
      · subst e
        by_cases no : S.1 9 p = 0 ∨ ¬ aok S p w c
        · refine c_claim R W h11 hp hw (fun _ => ?_) (fun z1 z2 => by rcases no with q | q; exact absurd q z1; exact absurd z2 q) (fun z1 z2 => by rcases no with q | q; exact absurd q z1; exact absurd z2 q)
          exact hF _ (r_claim Q W h11 hp hw (fun _ => hK _ _ I') (fun z1 z2 => by rcases no with q | q; exact absurd q z1; exact absurd z2 q) (fun z1 z2 => by rcases no with q | q; exact absurd q z1; exact absurd z2 q))
        · have h9 : ¬ S.1 9 p = 0 := fun z => no (Or.inl z)
          have ok : aok S p w c := Classical.byContradiction (fun z => no (Or.inr z))
          by_cases h0 : ∀ q, q < 4 → (ckS S p w c).1 9 q = 0
          · have H := ck_Wh W h11 hp (by omega) ok h0
            obtain ⟨w2, h29, _⟩ := (ck_Wf W h11 hp (by omega) ok).2.2.2.2.2.2.2.2 (show (ckS S p w c).1 11 0 = 2 from h11)
            obtain ⟨S', W', hc, hr⟩ := h_settle J H w2.2.2.2.2.2.1 (fun z => ⟨h29, w2.2.2.2.2.2.2 z⟩)
            refine c_claim R W h11 hp hw (fun z => absurd z no) (fun _ _ z => absurd h0 z) (fun _ _ _ m1 R => hc m1 m _ R (fun m2 R => ?_))
            refine hF _ (r_claim (Q.re R.fr) W h11 hp hw (fun z => absurd z no) (fun _ _ z => absurd h0 z) (fun _ _ _ m3 Q => hr m3 m2 _ Q (fun m4 Q => ?_)))
            rw [show m2.1 0 3 = nI (S'.1 11 0) from R.g11, show m4.1 33 3 = nI (S'.1 11 0) from Q.g11]
            exact hK _ _ (Inv.mk R Q W')
          · refine c_claim R W h11 hp hw (fun z => absurd z no) (fun _ _ _ m1 R => ?_) (fun _ _ z => absurd z h0)
            refine hF _ (r_claim (Q.re R.fr) W h11 hp hw (fun z => absurd z no) (fun _ _ _ m2 Q => ?_) (fun _ _ z => absurd z h0))
            rw [show m1.1 0 3 = nI ((ckS S p w c).1 11 0) from R.g11, show m2.1 33 3 = nI ((ckS S p w c).1 11 0) from Q.g11]
            exact hK _ _ (Inv.mk R Q (ck_Wf W h11 hp (by omega) ok))
      · have b9 := B.b9 p
        unfold j_Table_claim
        rw [show (m.1 0 3 = 2) = (S.1 11 0 = 2) from ph_eq B R.g11 2 (by omega)]
        refine ⟨fun z => absurd h11 z, fun _ => w_isPlayer hp ⟨fun _ => ⟨pz_in hp (by omega), fun y hy => ?_⟩, fun z => absurd z (by decide)⟩⟩
        have fin : j_Model_claim (nI p) b c m (fun r2 m2 => K (-1) r2 m2) := by
          unfold j_Model_claim
          rw [show (m.1 33 3 = 2) = (S.1 11 0 = 2) from ph_eq B Q.g11 2 (by omega)]
          refine ⟨fun z => absurd h11 z, fun _ => ⟨fun _ => hK _ _ I', fun _ => ⟨fun _ => hK _ _ I', fun _ => ⟨pz_in hp (by omega), fun _ => hK _ _ I', fun _ => ⟨fun _ => hK _ _ I', fun q1 => ⟨fun q2 => ?_, fun _ => hK _ _ I'⟩⟩⟩⟩⟩⟩
          exfalso
          rcases hb with z | z
          · exact q1 z
          · have : (nI 5 : Int32) ≤ 4 := Int32.le_trans z q2
            exact absurd this (by decide)
        rw [nI_clamp (by omega)] at hy
        subst hy
        refine ⟨fun _ => hF _ fin, fun _ => ?_⟩
        unfold j_Table_mayAnswer
        have ne : ∀ k, k < 5 → ¬ b = nI k := fun k hk => ar_ne (by omega) hb hk
        refine ⟨fun _ => ⟨fun z => absurd rfl z, fun _ => hF _ fin⟩, fun z => absurd z (ne 0 (by omega)), fun z => absurd z (ne 1 (by omega)), fun z => absurd z (ne 2 (by omega)), fun z => absurd z (ne 3 (by omega)), fun z => absurd z (ne 4 (by omega))⟩
    · unfold j_Table_claim
      rw [show (m.1 0 3 = 2) = (S.1 11 0 = 2) from ph_eq B R.g11 2 (by omega)]
      refine ⟨fun z => absurd h11 z, fun _ => w_isPlayerF ha ⟨fun z => absurd rfl z, fun _ => hF _ ?_⟩⟩
      unfold j_Model_claim
      rw [show (m.1 33 3 = 2) = (S.1 11 0 = 2) from ph_eq B Q.g11 2 (by omega)]
      exact ⟨fun z => absurd h11 z, fun _ => ⟨fun _ => hK _ _ I', fun q1 => ⟨fun _ => hK _ _ I', fun q2 => (ar_gt ha q1 q2).elim⟩⟩⟩
  · unfold j_Table_claim
    rw [show (m.1 0 3 = 2) = (S.1 11 0 = 2) from ph_eq B R.g11 2 (by omega)]
    refine ⟨fun _ => hF _ ?_, fun z => absurd z h11⟩
    unfold j_Model_claim
    rw [show (m.1 33 3 = 2) = (S.1 11 0 = 2) from ph_eq B Q.g11 2 (by omega)]
    exact ⟨fun _ => hK _ _ I', fun z => absurd z h11⟩
