/-! WHAT IS SO OF EVERY STATE -/
/-- how many of the first n places hold k -/
def wnf (f : Nat → Nat) (k : Nat) : Nat → Nat
  | 0 => 0
  | n + 1 => wnf f k n + (if f n = k then 1 else 0)
def wn (S : zS) (k n : Nat) : Nat := wnf (S.1 0) k n
/-- how many k may still be drawn or lie among the indicators -/
def rst (S : zS) (k : Nat) : Nat := wn S k (136 - S.1 17 0) - wn S k (S.1 20 0)
def oS (S : zS) (p k : Nat) : Nat := own_ (cf S p) (mf S p) (S.1 2 p) k
def tot (S : zS) (k : Nat) : Nat := oS S 0 k + oS S 1 k + oS S 2 k + oS S 3 k
def rsm (S : zS) : Nat := S.1 4 0 + S.1 4 1 + S.1 4 2 + S.1 4 3
def msm (S : zS) : Nat := S.1 2 0 + S.1 2 1 + S.1 2 2 + S.1 2 3
def ssm (S : zS) (p : Nat) : Nat := 3 * S.1 2 p + csum (cf S p) 34
/-- the run from lo on has the tile, and p has its two others -/
def hr (S : zS) (p lo : Nat) : Prop := lo < 27 ∧ lo % 9 ≤ 6 ∧ lo ≤ til S ∧ til S ≤ lo + 2 ∧ ∀ k, lo ≤ k → k ≤ lo + 2 → ¬ k = til S → ¬ cf S p k = 0
def frt (S : zS) (p : Nat) : Prop := fur_ (cf S p) (mf S p) (S.1 2 p) (S.1 8 p) (df S p)
/-- what p may take -/
noncomputable def tk_ (S : zS) (p : Nat) : Nat := if S.1 15 0 = 1 ∨ ¬ S.1 6 p = 0 ∨ lft S = 0 then 0 else (if 2 ≤ cf S p (til S) then 4 else 0) + (if 3 ≤ cf S p (til S) ∧ S.1 17 0 < 4 then 8 else 0) + (if p = (S.1 14 0 + 1) % 4 ∧ bb (∃ lo, hr S p lo) = true then 2 else 0)
noncomputable def op_ (S : zS) (p : Nat) : Nat := if p = S.1 14 0 then 0 else tk_ S p + (if bb (¬ (jd S p false).2.2.2 = 0 ∧ ¬ frt S p) = true then 16 else 0)
/-- an answer that was allowed -/
def an_ (S : zS) (p : Nat) : Prop := S.1 10 p = 0 ∨ (¬ p = S.1 14 0 ∧ ((S.1 10 p = 4 ∧ ¬ (jd S p false).2.2.2 = 0) ∨ (S.1 15 0 = 0 ∧ S.1 6 p = 0 ∧ 0 < lft S ∧ ((S.1 10 p = 1 ∧ p = (S.1 14 0 + 1) % 4 ∧ ∃ lo, S.2.1 32 p = nI lo ∧ hr S p lo) ∨ (S.1 10 p = 2 ∧ 2 ≤ cf S p (til S)) ∨ (S.1 10 p = 3 ∧ 3 ≤ cf S p (til S) ∧ S.1 17 0 < 4)))))
def sh (S : zS) : Prop := S.1 11 0 = 1 ∨ S.1 11 0 = 2 ∨ S.1 11 0 = 3
def WfW (S : zS) : Prop := ∀ p, p < 4 → (S.2.2 0 p = 0 → S.2.1 36 (4 * p) = -1) ∧ (¬ S.2.2 0 p = 0 → ¬ S.2.1 33 (4 * p) < 0 ∧ ∀ i, i < 4 → S.2.1 36 (4 * p + i) = S.2.1 33 (4 * p + i))
def WfR (S : zS) : Prop := ∀ p, p < 4 → S.2.2 1 p = lN (mk_ (df S p) 34) ∧ (¬ S.1 6 p = 0 → cls S p) ∧ (S.1 7 p = 1 → ¬ S.1 6 p = 0)
def WfA (S : zS) : Prop := (∀ k, k < 34 → wn S k 136 = 4) ∧ 52 ≤ S.1 20 0 ∧ S.1 20 0 + S.1 17 0 ≤ 122 ∧ (¬ S.1 11 0 = 0 → S.1 25 0 = S.1 20 0) ∧ (S.1 11 0 = 0 → S.1 20 0 = 52 ∧ S.1 17 0 = 0)
def Wf1 (S : zS) : Prop := (∀ p, p < 4 → ssm S p = if p = S.1 14 0 then 14 else 13) ∧ (∀ k, k < 34 → tot S k + rst S k ≤ 4) ∧ rsm S + 1 ≤ S.1 20 0 - 52 + S.1 17 0 + msm S ∧ S.1 26 0 = S.1 21 0 ∧ (0 < S.1 21 0 → S.1 24 0 = S.1 18 0) ∧ S.1 28 0 = 0
/-- before claims are settled -/
def Ws2 (S : zS) : Prop := (∀ p, p < 4 → ssm S p = 13) ∧ (∀ k, k < 34 → tot S k + (if k = til S then 1 else 0) + rst S k ≤ 4) ∧ rsm S ≤ S.1 20 0 - 52 + S.1 17 0 + msm S ∧ 0 < S.1 21 0 ∧ S.1 27 0 = til S ∧ (S.1 15 0 = 0 → S.1 28 0 = if S.1 19 0 = 1 then S.1 14 0 + 1 else 0) ∧ (S.1 15 0 = 1 → S.1 28 0 = 0 ∧ 0 < lft S ∧ S.1 17 0 < 4 ∧ ∃ i, i < S.1 2 (S.1 14 0) ∧ mf S (S.1 14 0) i = 4 * til S + 1)
def Wf2 (S : zS) : Prop := Ws2 S ∧ S.1 29 0 = 1 ∧ ∀ p, p < 4 → (S.1 9 p = 0 ∨ S.1 9 p = op_ S p) ∧ an_ S p
def Wf (S : zS) : Prop := Bd S ∧ Mk S ∧ WfW S ∧ WfR S ∧ WfA S ∧ (sh S → ∀ p, p < 4 → ssm S p = 13 ∨ ssm S p = 14) ∧ (¬ S.1 11 0 = 2 → ∀ p, p < 4 → S.1 9 p = 0) ∧ (S.1 11 0 = 1 → Wf1 S) ∧ (S.1 11 0 = 2 → Wf2 S)
def Inv (m : zm) : Prop := ∃ S, Rc m S m ∧ Rr m S m ∧ Wf S
/-! ARGUMENTS -/
theorem ar_or {n : Nat} (hn : n < 1000) (a : Int32) : (∃ p, p < n ∧ a = nI p) ∨ (a < 0 ∨ nI n ≤ a) := by
  by_cases h : a < 0
  · exact Or.inr (Or.inl h)
  · by_cases h2 : nI n ≤ a
    · exact Or.inr (Or.inr h2)
    · left
      have h0 : 0 ≤ a := Int32.not_lt.mp h
      refine ⟨a.toNatClampNeg, ?_, ?_⟩
      · have h3 : a < nI n := Int32.not_le.mp h2
        rw [Int32.lt_iff_toInt_lt] at h3
        rw [Int32.le_iff_toInt_le] at h0
        have e : (nI n).toInt = n := nI_toInt (by omega)
        have e0 : (0 : Int32).toInt = 0 := rfl
        rw [e] at h3
        rw [e0] at h0
        show a.toInt.toNat < n
        omega
      · rw [Int32.le_iff_toInt_le] at h0
        have e0 : (0 : Int32).toInt = 0 := rfl
        rw [e0] at h0
        apply Int32.toInt_inj.mp
        have hlt : a.toNatClampNeg < 2 ^ 31 := by
          show a.toInt.toNat < 2 ^ 31
          have := a.toInt_lt
          omega
        rw [nI_toInt hlt]
        show a.toInt = (a.toInt.toNat : Int)
        omega
theorem nI_n0 {p : Nat} (h : p < 2 ^ 31) : ¬ nI p < 0 := Int32.not_lt.mpr (nI_pos' h)
theorem w_isPlayer {p : Nat} {m : zm} {K : Int32 → zm → Prop} (hp : p < 4) (k : K 1 m) : j_Table_isPlayer (nI p) m K :=
  ⟨fun h => absurd h (nI_n0 (by omega)), fun _ => ⟨fun h => by rw [show (4 : Int32) = nI 4 from rfl, pz_le (by omega) (by omega)] at h; omega, fun _ => ⟨Or.inr rfl, k⟩⟩⟩
theorem w_isPlayerF {a : Int32} {m : zm} {K : Int32 → zm → Prop} (ha : a < 0 ∨ nI 4 ≤ a) (k : K 0 m) : j_Table_isPlayer a m K :=
  ⟨fun _ => ⟨Or.inl rfl, k⟩, fun h => ⟨fun _ => ⟨Or.inl rfl, k⟩, fun h2 => (ha.elim h h2).elim⟩⟩
theorem w_isKind {p : Nat} {m : zm} {K : Int32 → zm → Prop} (hp : p < 34) (k : K 1 m) : j_Table_isKind (nI p) m K :=
  ⟨fun h => absurd h (nI_n0 (by omega)), fun _ => ⟨fun h => by rw [show (34 : Int32) = nI 34 from rfl, pz_le (by omega) (by omega)] at h; omega, fun _ => ⟨Or.inr rfl, k⟩⟩⟩
theorem w_isKindF {a : Int32} {m : zm} {K : Int32 → zm → Prop} (ha : a < 0 ∨ nI 34 ≤ a) (k : K 0 m) : j_Table_isKind a m K :=
  ⟨fun _ => ⟨Or.inl rfl, k⟩, fun h => ⟨fun _ => ⟨Or.inl rfl, k⟩, fun h2 => (ha.elim h h2).elim⟩⟩
theorem ph_eq {S : zS} (B : Bd S) {x : Int32} (h : x = nI (S.1 11 0)) (n : Nat) (hn : n < 1000) : (x = nI n) = (S.1 11 0 = n) := by
  have := B.b11 0
  rw [h, pz_eq (by omega) (by omega)]
theorem w_shown {m m0 : zm} {S : zS} {K : Int32 → zm → Prop} (R : Rc m S m0) (B : Bd S) (hT : sh S → K 1 m) (hF : ¬ sh S → K 0 m) : j_Table_isHandShown m K := by
  have e1 : (m.1 0 3 = 1) = (S.1 11 0 = 1) := ph_eq B R.g11 1 (by omega)
  have e2 : (m.1 0 3 = 2) = (S.1 11 0 = 2) := ph_eq B R.g11 2 (by omega)
  have e3 : (m.1 0 3 = 3) = (S.1 11 0 = 3) := ph_eq B R.g11 3 (by omega)
  rw [j_Table_isHandShown, e1, e2, e3]
  exact ⟨fun h => ⟨Or.inr rfl, hT (Or.inl h)⟩, fun h => ⟨fun h2 => ⟨Or.inr rfl, hT (Or.inr (Or.inl h2))⟩, fun h2 => ⟨fun h3 => ⟨Or.inl rfl, hF (fun z => by rcases z with z | z | z <;> contradiction)⟩, fun h3 => ⟨Or.inr rfl, hT (Or.inr (Or.inr h3))⟩⟩⟩⟩
theorem w_shows {p : Nat} {m m0 : zm} {S : zS} {K : Int32 → zm → Prop} (R : Rr m S m0) (B : Bd S) (hp : p < 4) (hT : sh S → K 1 m) (hF : ¬ sh S → K 0 m) : j_Model_shows (nI p) m K := by
  have hb := B.b11 0
  have e1 : (m.1 33 3 < 1) = (S.1 11 0 < 1) := by rw [R.g11]; exact pz_lt (b := 1) (by omega) (by omega)
  have e2 : (3 < m.1 33 3) = (3 < S.1 11 0) := by rw [R.g11]; exact pz_lt (a := 3) (by omega) (by omega)
  have e3 : ((3 : Int32) < nI p) = (3 < p) := pz_lt (a := 3) (by omega) (by omega)
  rw [j_Model_shows, e1, e2, e3]
  exact ⟨fun h => absurd h (nI_n0 (by omega)), fun _ => ⟨fun h => by omega, fun _ => ⟨fun h => ⟨Or.inl rfl, hF (fun z => by unfold sh at z; omega)⟩, fun h => ⟨fun h2 => ⟨Or.inl rfl, hF (fun z => by unfold sh at z; omega)⟩, fun h2 => ⟨Or.inr rfl, hT (by unfold sh; omega)⟩⟩⟩⟩⟩
theorem w_showsF {a : Int32} {m : zm} {K : Int32 → zm → Prop} (ha : a < 0 ∨ nI 4 ≤ a) (k : K 0 m) : j_Model_shows a m K :=
  ⟨fun _ => ⟨Or.inl rfl, k⟩, fun h => ⟨fun _ => ⟨Or.inl rfl, k⟩, fun h2 => by
    exfalso
    rcases ha with z | z
    · exact h z
    · exact h2 (Int32.lt_of_lt_of_le (show (3 : Int32) < nI 4 by decide) z)⟩⟩
