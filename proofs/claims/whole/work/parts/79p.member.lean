/-! WHAT THE TABLE FINDS ARE THE READINGS -/
/-- the sets of a reading, in the table's order -/
def clw (R t : Nat → Nat) : Nat → Nat → Nat → Nat → List Nat
  | 0, _, _, _ => []
  | n + 1, k, a, b => List.replicate (t k) (4 * k + 1) ++ (List.replicate (R k - a) (4 * k) ++ clw R t n (k + 1) (b + (R k - a)) (R k - a))
theorem clw_c {R R' t t' : Nat → Nat} : ∀ n k a b, (∀ j, k ≤ j → R j = R' j) → (∀ j, k ≤ j → t j = t' j) → clw R t n k a b = clw R' t' n k a b
  | 0, _, _, _, _, _ => rfl
  | n + 1, k, a, b, h, h2 => by
    rw [clw, clw, h k (Nat.le_refl _), h2 k (Nat.le_refl _), clw_c n (k + 1) _ _ (fun j hj => h j (by omega)) (fun j hj => h2 j (by omega))]
noncomputable def gp (pr : Option Nat) (p j : Nat) : Nat := if bb (pr = none ∧ j = p) = true then 2 else 0
theorem gp_s (q p j : Nat) : gp (some q) p j = 0 := if_neg (fun z => by cases (bb_iff.mp z).1)
theorem gp_n {pr : Option Nat} {p j : Nat} (h : ¬ j = p) : gp pr p j = 0 := if_neg (fun z => h (bb_iff.mp z).2)
theorem gp_2 (p : Nat) : gp none p p = 2 := if_pos (bb_t ⟨rfl, rfl⟩)
/-- what a reading of the rest is -/
noncomputable def Rq (e : Nat → Nat) (pr : Option Nat) (p : Nat) (t : Nat → Nat) : Nat → Nat := fun j => e j - gp pr p j - 3 * t j
def Cw (e : Nat → Nat) (pr : Option Nat) (p : Nat) (t : Nat → Nat) (n k a b : Nat) : Prop := (∀ j, 3 * t j + gp pr p j ≤ e j) ∧ rs (Rq e pr p t) n k a b = true ∧ (pr = none → k ≤ p ∧ p < k + n) ∧ ∀ q, pr = some q → p = q
/-- what runs took before -/
def Iv (e : Nat → Nat) (n k a b : Nat) : Prop := ((27 ≤ k ∨ k % 9 = 0) → a = 0) ∧ ((27 ≤ k + 1 ∨ (k + 1) % 9 = 0) → b = 0) ∧ (0 < n → a ≤ e k) ∧ (1 < n → b ≤ e (k + 1))
theorem Iv.s {e : Nat → Nat} {n k a b r : Nat} (h : Iv e (n + 1) k a b) (ok : runOk e k b r) : Iv e n (k + 1) (b + r) r := by
  obtain ⟨h1, h2, h3, h4⟩ := h
  unfold runOk at ok
  refine ⟨fun z => ?_, fun z => ?_, fun z => ?_, fun z => ?_⟩
  · have := h2 z
    omega
  · omega
  · have := h4 (by omega)
    omega
  · show r ≤ e (k + 2)
    omega
theorem mem_tA {e : Nat → Nat} {n k a b p : Nat} {pr : Option Nat} {O O' : List Nat} : (p, O') ∈ tA e (n + 1) k a b pr O ↔ ∃ T P, T < 2 ∧ P < 2 ∧ (p, O') ∈ br e n k a b pr O T P := by
  rw [tA_br]
  simp only [List.mem_append]
  constructor
  · rintro (h | h | h | h)
    · exact ⟨0, 0, by omega, by omega, h⟩
    · exact ⟨0, 1, by omega, by omega, h⟩
    · exact ⟨1, 0, by omega, by omega, h⟩
    · exact ⟨1, 1, by omega, by omega, h⟩
  · rintro ⟨T, P, hT, hP, h⟩
    rcases (show T = 0 ∨ T = 1 by omega) with e | e <;> rcases (show P = 0 ∨ P = 1 by omega) with e' | e' <;> subst e <;> subst e'
    · exact Or.inl h
    · exact Or.inr (Or.inl h)
    · exact Or.inr (Or.inr (Or.inl h))
    · exact Or.inr (Or.inr (Or.inr h))
theorem tA_1 {e : Nat → Nat} {p : Nat} {O' : List Nat} : ∀ n k a b pr O, k + n = 34 → Iv e n k a b → (p, O') ∈ tA e n k a b pr O → ∃ t, Cw e pr p t n k a b ∧ O' = O ++ clw (Rq e pr p t) t n k a b := by
  intro n
  induction n with
  | zero =>
    intro k a b pr O hk I h
    cases pr with
    | none => cases h
    | some q =>
      have h' := List.mem_singleton.mp (show (p, O') ∈ [(q, O)] from h)
      have e1 : p = q := congrArg Prod.fst h'
      have e2 : O' = O := congrArg Prod.snd h'
      refine ⟨fun _ => 0, ⟨fun j => ?_, ?_, fun z => (by cases z), fun q' z => ?_⟩, ?_⟩
      · rw [gp_s]; exact Nat.zero_le _
      · rw [rs]; exact decide_eq_true (I.1 (by omega))
      · cases z; exact e1
      · rw [clw, List.append_nil]; exact e2
  | succ n ih =>
    intro k a b pr O hk I h
    obtain ⟨T, P, hT, hP, h⟩ := mem_tA.mp h
    unfold br at h
    split at h
    · rename_i hc
      obtain ⟨c1, c2, c3⟩ := bb_iff.mp hc
      have hr : e k - a - (3 * T + 2 * P) = e k - 2 * P - 3 * T - a := by omega
      obtain ⟨t, ⟨t1, t2, t3, t4⟩, tO⟩ := ih _ _ _ _ _ (by omega) (I.s c3) h
      have hak := I.2.2.1 (by omega)
      have gk : gp pr p k = 2 * P := by
        by_cases q : P = 1
        · have hn := c2 q
          rw [if_pos q] at t4
          have := t4 k rfl
          rw [hn, this, gp_2, q]
        · have p0 : P = 0 := by omega
          rw [p0]
          by_cases qn : pr = none
          · rw [if_neg q] at t3
            have := t3 qn
            exact gp_n (by omega)
          · cases pr with
            | none => exact absurd rfl qn
            | some x => exact gp_s _ _ _
      have gj : ∀ j, ¬ j = k → gp (if P = 1 then some k else pr) p j = gp pr p j := by
        intro j hj
        by_cases q : P = 1
        · rw [if_pos q]
          rw [if_pos q] at t4
          have := t4 k rfl
          rw [gp_s, gp_n (by omega)]
        · rw [if_neg q]
      have Rk : Rq e pr p (fun j => if j = k then T else t j) k = e k - 2 * P - 3 * T := by
        show e k - gp pr p k - 3 * (if k = k then T else t k) = _
        rw [gk, if_pos rfl]
      have Rj : ∀ j, k + 1 ≤ j → Rq e pr p (fun j => if j = k then T else t j) j = Rq e (if P = 1 then some k else pr) p t j := by
        intro j hj
        show e j - gp pr p j - 3 * (if j = k then T else t j) = e j - gp _ p j - 3 * t j
        rw [gj j (by omega), if_neg (by omega)]
      refine ⟨fun j => if j = k then T else t j, ⟨fun j => ?_, ?_, fun z => ?_, fun q z => ?_⟩, ?_⟩
      · show 3 * (if j = k then T else t j) + gp pr p j ≤ e j
        by_cases q : j = k
        · rw [if_pos q, q, gk]; omega
        · rw [if_neg q, ← gj j q]; exact t1 j
      · rw [rs_go I.1 (by rw [Rk]; omega), Rk, ← hr, rs_cong _ _ _ _ (fun j hj _ => Rj j hj)]
        exact t2
      · by_cases q : P = 1
        · rw [if_pos q] at t4
          have := t4 k rfl
          omega
        · rw [if_neg q] at t3
          have := t3 z
          omega
      · by_cases q' : P = 1
        · rw [c2 q'] at z; cases z
        · rw [if_neg q'] at t4
          exact t4 q z
      · rw [tO, clw, Rk, ← hr, if_pos rfl, clw_c n (k + 1) _ _ Rj (fun j hj => if_neg (show ¬ j = k by omega))]
        simp only [List.append_assoc]
    · cases h
theorem tA_2 {e : Nat → Nat} (he : ∀ j, e j ≤ 4) {p : Nat} {t : Nat → Nat} : ∀ n k a b pr O, k + n = 34 → Iv e n k a b → Cw e pr p t n k a b → (p, O ++ clw (Rq e pr p t) t n k a b) ∈ tA e n k a b pr O := by
  intro n
  induction n with
  | zero =>
    intro k a b pr O hk I C
    obtain ⟨c1, c2, c3, c4⟩ := C
    cases pr with
    | none => have := c3 rfl; omega
    | some q =>
      rw [c4 q rfl, clw, List.append_nil]
      exact List.mem_singleton.mpr rfl
  | succ n ih =>
    intro k a b pr O hk I C
    obtain ⟨c1, c2, c3, c4⟩ := C
    have gk : gp pr p k = 0 ∨ (gp pr p k = 2 ∧ pr = none ∧ k = p) := by
      by_cases q : pr = none ∧ k = p
      · exact Or.inr ⟨if_pos (bb_t q), q⟩
      · exact Or.inl (if_neg (fun z => q (bb_iff.mp z)))
    obtain ⟨P, hP, gP⟩ : ∃ P, P < 2 ∧ gp pr p k = 2 * P := by
      rcases gk with g | g
      · exact ⟨0, by omega, by omega⟩
      · exact ⟨1, by omega, by omega⟩
    have P1 : P = 1 → pr = none ∧ k = p := fun z => by
      rcases gk with g | g
      · omega
      · exact g.2
    have P0 : pr = none → k = p → P = 1 := fun z1 z2 => by
      rw [z1, z2, gp_2] at gP
      omega
    have ck := c1 k
    have ek := he k
    have Rk : Rq e pr p t k = e k - 2 * P - 3 * t k := by
      show e k - gp pr p k - 3 * t k = _
      rw [gP]
    have hR : ∀ j, Rq e pr p t j ≤ e j := fun j => by
      show e j - gp pr p j - 3 * t j ≤ e j
      omega
    have ha : a ≤ Rq e pr p t k := Classical.byContradiction (fun z => by
      rw [rs_lack (by omega)] at c2
      cases c2)
    have hr : e k - a - (3 * t k + 2 * P) = Rq e pr p t k - a := by omega
    have ok : runOk e k b (Rq e pr p t k - a) := by
      by_cases q : Rq e pr p t k - a = 0
      · exact Or.inl q
      · have hl : ¬ (27 ≤ k ∨ 7 ≤ k % 9) := fun z => by
          rw [rs_late hk I.1 ha q z] at c2
          cases c2
        have f1 : ¬ Rq e pr p t (k + 1) < b + (Rq e pr p t k - a) := fun z => by
          obtain ⟨n', en⟩ : ∃ n', n = n' + 1 := ⟨n - 1, by omega⟩
          rw [en, rs_few1 I.1 ha z] at c2
          cases c2
        have f2 : ¬ Rq e pr p t (k + 2) < Rq e pr p t k - a := fun z => by
          obtain ⟨n', en⟩ : ∃ n', n = n' + 2 := ⟨n - 2, by omega⟩
          rw [en, rs_few2 I.1 ha z] at c2
          cases c2
        have := hR (k + 1)
        have := hR (k + 2)
        exact Or.inr ⟨by omega, by omega, by omega, by omega⟩
    have gj : ∀ j, ¬ j = k → gp (if P = 1 then some k else pr) p j = gp pr p j := by
      intro j hj
      by_cases q : P = 1
      · rw [if_pos q]
        have := (P1 q).2
        rw [gp_s, gp_n (by omega)]
      · rw [if_neg q]
    have Rj : ∀ j, k + 1 ≤ j → Rq e pr p t j = Rq e (if P = 1 then some k else pr) p t j := by
      intro j hj
      show e j - gp pr p j - 3 * t j = e j - gp _ p j - 3 * t j
      rw [gj j (by omega)]
    refine mem_tA.mpr ⟨t k, P, by omega, hP, ?_⟩
    unfold br
    rw [hr, if_pos (bb_t ⟨by omega, fun z => (P1 z).1, ok⟩)]
    have I' := I.s ok
    have key := ih (k + 1) _ _ (if P = 1 then some k else pr) ((O ++ List.replicate (t k) (4 * k + 1)) ++ List.replicate (Rq e pr p t k - a) (4 * k)) (by omega) I' ⟨fun j => ?_, ?_, fun z => ?_, fun q z => ?_⟩
    · rw [clw, clw_c n (k + 1) _ _ Rj (fun j _ => rfl)]
      simp only [List.append_assoc] at key ⊢
      exact key
    · by_cases q : j = k
      · have : gp (if P = 1 then some k else pr) p j = gp pr p j ∨ gp (if P = 1 then some k else pr) p j = 0 := by
          by_cases q' : P = 1
          · rw [if_pos q']; exact Or.inr (gp_s _ _ _)
          · rw [if_neg q']; exact Or.inl rfl
        have := c1 j
        omega
      · rw [gj j q]; exact c1 j
    · rw [← rs_cong _ _ _ _ (fun j hj _ => Rj j hj), ← rs_go I.1 ha]
      exact c2
    · by_cases q : P = 1
      · rw [if_pos q] at z; cases z
      · rw [if_neg q] at z
        have := c3 z
        have : ¬ k = p := fun y => q (P0 z y)
        omega
    · by_cases q' : P = 1
      · rw [if_pos q'] at z
        cases z
        exact ((P1 q').2).symm
      · rw [if_neg q'] at z
        exact c4 q z
theorem Rq_dn (e : Nat → Nat) (p : Nat) (t : Nat → Nat) : Rq e none p t = fun j => dn e p 2 j - 3 * t j := by
  funext j
  unfold Rq dn
  by_cases q : j = p
  · rw [if_pos q, q, gp_2]
  · rw [if_neg q, gp_n q, Nat.sub_zero]
theorem tA_mem {e : Nat → Nat} (he : ∀ j, e j ≤ 4) {p : Nat} {O' : List Nat} : (p, O') ∈ tA e 34 0 0 0 none [] ↔ ∃ t, way_ e p t ∧ O' = clw (fun j => dn e p 2 j - 3 * t j) t 34 0 0 0 := by
  have I : Iv e 34 0 0 0 := ⟨fun _ => rfl, fun _ => rfl, fun _ => Nat.zero_le _, fun _ => Nat.zero_le _⟩
  constructor
  · intro h
    obtain ⟨t, ⟨c1, c2, c3, c4⟩, hO⟩ := tA_1 34 0 0 0 none [] rfl I h
    rw [Rq_dn] at c2 hO
    refine ⟨t, ⟨by have := c3 rfl; omega, ?_, fun j => ?_, c2⟩, hO⟩
    · have := c1 p
      rw [gp_2] at this
      omega
    · have := c1 j
      unfold dn
      by_cases q : j = p
      · rw [if_pos q]
        rw [q, gp_2] at this
        rw [q]
        omega
      · rw [if_neg q]; omega
  · rintro ⟨t, ⟨w1, w2, w3, w4⟩, hO⟩
    have := tA_2 he (p := p) (t := t) 34 0 0 0 none [] rfl I ⟨fun j => ?_, by rw [Rq_dn]; exact w4, fun _ => by omega, fun q z => by cases z⟩
    · rw [Rq_dn] at this
      rw [hO]
      exact this
    · have := w3 j
      unfold dn at this
      by_cases q : j = p
      · rw [if_pos q] at this
        rw [q, gp_2]
        rw [q] at this
        omega
      · rw [if_neg q] at this
        rw [gp_n q]
        exact this
/-! the order of sets does not matter -/
def fk (c : Nat) : Nat × Nat := (fm c, c / 4)
theorem fk_0 (k : Nat) : fk (4 * k) = (0, k) := by
  unfold fk fm
  rw [if_pos (by omega), show 4 * k / 4 = k by omega]
theorem fk_1 (k : Nat) : fk (4 * k + 1) = (1, k) := by
  unfold fk fm
  rw [if_neg (by omega), if_pos (by omega), show (4 * k + 1) / 4 = k by omega]
theorem clw_p {R t : Nat → Nat} (ht : ∀ j, t j ≤ 1) : ∀ n k a b, (tlt t k ++ (clw R t n k a b).map fk).Perm (tlt t (k + n) ++ rl R n k a b)
  | 0, k, a, b => by rw [clw, rl]; exact List.Perm.refl _
  | n + 1, k, a, b => by
    have ih := clw_p (R := R) ht n (k + 1) (b + (R k - a)) (R k - a)
    have e1 : tlt t k ++ (clw R t (n + 1) k a b).map fk = tlt t (k + 1) ++ (List.replicate (R k - a) (0, k) ++ (clw R t n (k + 1) (b + (R k - a)) (R k - a)).map fk) := by
      rw [clw, List.map_append, List.map_append, List.map_replicate, List.map_replicate, fk_0, fk_1, tlt]
      have : List.replicate (t k) (1, k) = if t k = 1 then [(1, k)] else [] := by
        by_cases q : t k = 1
        · rw [if_pos q, q]; rfl
        · rw [if_neg q, show t k = 0 by have := ht k; omega]; rfl
      rw [this, List.append_assoc]
    rw [e1, rl, show k + (n + 1) = k + 1 + n by omega]
    exact (List.perm_append_comm_assoc _ _ _).trans (((List.Perm.append_left _ ih)).trans (List.perm_append_comm_assoc _ _ _))
theorem clw_ow {e t : Nat → Nat} {p : Nat} (ht : ∀ j, t j ≤ 1) : ((clw (fun j => dn e p 2 j - 3 * t j) t 34 0 0 0).map fk).Perm (ow_ e p t) := clw_p ht 34 0 0 0
theorem sum_p {l l' : List Nat} (h : l.Perm l') : l.sum = l'.sum := by
  induction h with
  | nil => rfl
  | cons x _ ih => rw [List.sum_cons, List.sum_cons, ih]
  | swap x y l => simp only [List.sum_cons]; omega
  | trans _ _ h1 h2 => exact h1.trans h2
theorem tw_p {L L' : List (Nat × Nat × Bool)} (h : L.Perm L') : ∀ n, tw_ L n = tw_ L' n
  | 0 => rfl
  | n + 1 => by
    have : nrun L n = nrun L' n := h.countP_eq _
    rw [tw_, tw_, tw_p h n, this]
theorem fus_p {L L' : List (Nat × Nat × Bool)} (h : L.Perm L') : fus L = fus L' := sum_p (h.map _)
theorem sb_p {E : zE} {pr : Nat} {L L' : List (Nat × Nat × Bool)} {la : Option (Nat × Nat)} (h : L.Perm L') : sb_ E pr L la = sb_ E pr L' la := by
  have h1 : nrun L = nrun L' := by funext k; exact h.countP_eq _
  have h2 : ntri L = ntri L' := by funext k; exact h.countP_eq _
  have h3 : nR L = nR L' := h.countP_eq _
  have h4 : nC L = nC L' := h.countP_eq _
  have h5 : nQ L = nQ L' := h.countP_eq _
  have h6 : nD L = nD L' := h.countP_eq _
  have h7 : nW L = nW L' := h.countP_eq _
  have h8 : nE L = nE L' := h.countP_eq _
  have h9 : nH L = nH L' := h.countP_eq _
  funext y
  unfold sb_
  rw [h1, h2, h3, h4, h5, h6, h7, h8, h9, tw_p h]
theorem vL_p {E : zE} {hp tl : Nat → Bool} {dr pr : Nat} {L L' : List (Nat × Nat × Bool)} {la : Option (Nat × Nat)} (h : L.Perm L') : vL E hp tl dr pr L la = vL E hp tl dr pr L' la := by
  unfold vL fu_
  rw [sb_p h, fus_p h]
theorem vw_L (E : zE) (hp tl : Nat → Bool) (dr : Nat) (d : Nat → Nat) (w : Nat) (O : List (Nat × Nat)) (pr : Nat) (a : Option Nat) : vw_ E hp tl dr d w O pr a = vL E hp tl dr pr (tg_ E.2.1 a O ++ mg_ d w) (la_ O a) := rfl
def tg1 (x : Nat × Nat) : Nat × Nat × Bool := (x.1, x.2, true)
theorem tg_n (sd : Bool) (O : List (Nat × Nat)) : tg_ sd none O = O.map tg1 := by
  unfold tg_
  refine List.ext_getElem? (fun i => ?_)
  rw [List.getElem?_mapIdx, List.getElem?_map]
  cases O[i]? with
  | none => rfl
  | some x => show some (x.1, x.2, sd || true) = _; rw [Bool.or_true]; rfl
theorem tg_c0 (sd : Bool) (x : Nat × Nat) (O : List (Nat × Nat)) : tg_ sd (some 0) (x :: O) = (x.1, x.2, sd) :: O.map tg1 := by
  unfold tg_
  rw [List.mapIdx_cons]
  have e1 : (sd || !(some 0 == some 0)) = sd := by cases sd <;> rfl
  rw [e1]
  congr 1
  refine List.ext_getElem? (fun i => ?_)
  rw [List.getElem?_mapIdx, List.getElem?_map]
  cases O[i]? with
  | none => rfl
  | some x =>
    show some (x.1, x.2, sd || !(some 0 == some (i + 1))) = _
    have : ((some 0 : Option Nat) == some (i + 1)) = false := beq_eq_false_iff_ne.mpr (fun z => by cases z)
    rw [this, Bool.not_false, Bool.or_true]; rfl
theorem tg_cs (sd : Bool) (i : Nat) (x : Nat × Nat) (O : List (Nat × Nat)) : tg_ sd (some (i + 1)) (x :: O) = tg1 x :: tg_ sd (some i) O := by
  unfold tg_
  rw [List.mapIdx_cons]
  have e1 : ((some (i + 1) : Option Nat) == some 0) = false := beq_eq_false_iff_ne.mpr (fun z => by cases z)
  rw [e1, Bool.not_false, Bool.or_true]
  congr 1
  refine List.ext_getElem? (fun j => ?_)
  rw [List.getElem?_mapIdx, List.getElem?_mapIdx]
  have e2 : ((some (i + 1) : Option Nat) == some (j + 1)) = ((some i : Option Nat) == some j) := by
    by_cases q : i = j
    · rw [q, beq_self_eq_true, beq_self_eq_true]
    · rw [beq_eq_false_iff_ne.mpr (fun z => q (by injection z with z; omega)), beq_eq_false_iff_ne.mpr (fun z => q (by injection z))]
  rw [e2]
theorem tg_e (sd : Bool) : ∀ (O : List (Nat × Nat)) (i : Nat) (x : Nat × Nat), O[i]? = some x → ∃ E, O.Perm (x :: E) ∧ (tg_ sd (some i) O).Perm ((x.1, x.2, sd) :: E.map tg1)
  | [], i, x, h => by cases i <;> cases h
  | y :: O, 0, x, h => by
    have : y = x := by injection h
    subst this
    exact ⟨O, List.Perm.refl _, by rw [tg_c0]⟩
  | y :: O, i + 1, x, h => by
    obtain ⟨E, h1, h2⟩ := tg_e sd O i x h
    refine ⟨y :: E, (h1.cons y).trans (List.Perm.swap _ _ _), ?_⟩
    rw [tg_cs]
    exact (h2.cons _).trans (List.Perm.swap _ _ _)
/-- a reading may be looked at in either order -/
theorem re_p {sd : Bool} {last pr : Nat} {O O' : List (Nat × Nat)} (h : O.Perm O') {a : Option Nat} (ha : at_ last pr O a) : ∃ a', at_ last pr O' a' ∧ (tg_ sd a O).Perm (tg_ sd a' O') ∧ la_ O a = la_ O' a' := by
  cases a with
  | none => exact ⟨none, ha, by rw [tg_n, tg_n]; exact h.map _, rfl⟩
  | some i =>
    obtain ⟨x, hx, hl⟩ := ha
    have hm : x ∈ O' := h.mem_iff.mp (List.mem_of_getElem? hx)
    obtain ⟨j, hj⟩ := List.getElem?_of_mem hm
    obtain ⟨E, e1, e2⟩ := tg_e sd O i x hx
    obtain ⟨E', e1', e2'⟩ := tg_e sd O' j x hj
    have eE : E.Perm E' := List.Perm.cons_inv ((e1.symm.trans h).trans e1')
    refine ⟨some j, ⟨x, hj, hl⟩, e2.trans (((eE.map _).cons _).trans e2'.symm), ?_⟩
    show O[i]? = O'[j]?
    rw [hx, hj]
theorem vw_p {E : zE} {hp tl : Nat → Bool} {dr w pr : Nat} {d : Nat → Nat} {O O' : List (Nat × Nat)} (h : O.Perm O') {a : Option Nat} (ha : at_ E.2.2.2.2 pr O a) : ∃ a', at_ E.2.2.2.2 pr O' a' ∧ vw_ E hp tl dr d w O pr a = vw_ E hp tl dr d w O' pr a' := by
  obtain ⟨a', h1, h2, h3⟩ := re_p (sd := E.2.1) h ha
  refine ⟨a', h1, ?_⟩
  rw [vw_L, vw_L, h3]
  exact vL_p (h2.append_right _)
