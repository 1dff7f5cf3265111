/-! OF A HAND THAT IS JUDGED -/
theorem cin_34 {d k : Nat} (h : d < 136) (h2 : d % 4 = 0 → d / 4 < 27) (hk : 34 ≤ k) : cin_ d k = 0 := by
  unfold cin_
  by_cases q : d % 4 = 0
  · have := h2 q
    rw [if_pos q, if_neg (by omega)]
  · rw [if_neg q, if_neg (by omega)]
theorem msum_34 {d : Nat → Nat} {k : Nat} (h : ∀ i, d i < 136 ∧ (d i % 4 = 0 → d i / 4 < 27)) (hk : 34 ≤ k) : ∀ n, msum d k n = 0
  | 0 => rfl
  | n + 1 => by rw [msum, msum_34 h hk n, cin_34 (h n).1 (h n).2 hk]
theorem mf_ok {S : zS} (B : Bd S) (M : Mk S) (p : Nat) (i : Nat) : mf S p i < 136 ∧ (mf S p i % 4 = 0 → mf S p i / 4 < 27 ∧ mf S p i / 4 % 9 ≤ 6) := by
  have h := B 3 (4 * p + i) (by omega)
  have h : S.1 3 (4 * p + i) ≤ 135 := h
  exact ⟨show S.1 3 (4 * p + i) < 136 by omega, (M (4 * p + i)).2.2⟩
theorem Wj.a4 {S : zS} {p : Nat} {sd : Bool} (W : Wj S p sd) : al4 (ac S p sd) := by
  obtain ⟨B, M, r, hp, h21, hs, ha, hl, he, hsd⟩ := W
  intro k
  by_cases q : k < 34
  · exact ha k q
  · have b21 := B.b21 0
    have : til S < 34 := by unfold til; omega
    unfold ac own_
    rw [msum_34 (fun i => ⟨(mf_ok B M p i).1, fun z => ((mf_ok B M p i).2 z).1⟩) (by omega), if_neg (by omega)]
    show (if k < 34 then S.1 1 (34 * p + k) else 0) + 0 + 0 ≤ 4
    rw [if_neg q]; omega
theorem ec_ac (S : zS) (p : Nat) (sd : Bool) (k : Nat) : ac S p sd k = ec S p sd k + msum (mf S p) k (S.1 2 p) := by
  unfold ac ec own_
  omega
theorem Wj.e4 {S : zS} {p : Nat} {sd : Bool} (W : Wj S p sd) : ∀ k, ec S p sd k ≤ 4 := fun k => by
  have := W.a4 k
  rw [ec_ac] at this
  omega
theorem Wj.es {S : zS} {p : Nat} {sd : Bool} (W : Wj S p sd) : csum (ec S p sd) 34 = 3 * (4 - S.1 2 p) + 2 := by
  obtain ⟨B, M, r, hp, h21, hs, ha, hl, he, hsd⟩ := W
  have b2 := B.b2 p
  have b21 := B.b21 0
  have ht : til S < 34 := by unfold til; omega
  unfold ssm at hs
  have key : csum (ec S p sd) 34 = csum (cf S p) 34 + (if sd = true then 0 else 1) := by
    cases sd with
    | true =>
      rw [if_pos rfl, Nat.add_zero]
      exact csum_ext (fun j _ => by unfold ec; rw [if_neg (fun z => by cases z.1)]; rfl)
    | false =>
      rw [if_neg (by decide)]
      have : csum (ec S p false) 34 = csum (upc (cf S p) (til S)) 34 := csum_ext (fun j _ => by
        unfold ec upc
        by_cases q : j = til S
        · rw [if_pos ⟨rfl, q⟩, if_pos q]
        · rw [if_neg (fun z => q z.2), if_neg q]; rfl)
      rw [this, csum_upc, if_pos ht]
  rw [key]
  omega
theorem rm_c (e : Nat → Nat) : ∀ n k, rm e n k 0 0 + csum e k = csum e (k + n)
  | 0, k => by rw [rm]; exact Nat.zero_add _
  | n + 1, k => by
    have := rm_c e n (k + 1)
    rw [rm, show k + (n + 1) = k + 1 + n by omega, ← this, csum]
    omega
theorem Wj.z {S : zS} {p : Nat} {sd : Bool} (W : Wj S p sd) (hc : bb (cls S p) = false) : ∀ y, y < 30 → zro y = true → hb_ S p sd y = false ∧ tb_ (ac S p sd) (S.1 2 p) y = false := by
  obtain ⟨B, M, r, hp, h21, hs, ha, hl, he, hsd⟩ := W
  have nc : ¬ cls S p := fun z => by rw [bb_t z] at hc; cases hc
  have h6 : S.1 6 p = 0 := Classical.byContradiction (fun z => nc ((r p hp).2.1 z))
  have h7 : ¬ S.1 7 p = 1 := fun z => (r p hp).2.2 z h6
  intro y hy q
  unfold zro at q
  simp only [Bool.or_eq_true, beq_iff_eq] at q
  rcases q with ((((((q | q) | q) | q) | q) | q) | q) | q <;> subst q <;> refine ⟨?_, rfl⟩
  · show (S.1 6 p == 1) = false
    rw [h6]; rfl
  · show (S.1 6 p == 2) = false
    rw [h6]; rfl
  · show (S.1 7 p == 1) = false
    exact beq_f.symm ▸ h7
  · show (sd && bb (cls S p)) = false
    rw [hc, Bool.and_false]
  all_goals rfl
/-! the four sets, as the table lays them out -/
def sQ (d : Nat → Nat) (w : Nat) (O : List Nat) : Nat → Nat := fun i => if i < w then d i else O.getD (i - w) 0
theorem sQ_d {d : Nat → Nat} {w i : Nat} {O : List Nat} (h : i < w) : sQ d w O i = d i := if_pos h
theorem sQ_O {d : Nat → Nat} {w i : Nat} {O : List Nat} : sQ d w O (w + i) = O.getD i 0 := by
  unfold sQ
  rw [if_neg (by omega), show w + i - w = i by omega]
theorem lst_r (x : Nat → Nat × Nat × Bool) : ∀ n, lst x n = (List.range n).map x
  | 0 => rfl
  | n + 1 => by rw [lst, lst_r x n, List.range_succ, List.map_append]; rfl
theorem lst_c {x y : Nat → Nat × Nat × Bool} : ∀ n, (∀ i, i < n → x i = y i) → lst x n = lst y n
  | 0, _ => rfl
  | n + 1, h => by rw [lst, lst, lst_c n (fun i hi => h i (by omega)), h n (by omega)]
theorem lst_a (x : Nat → Nat × Nat × Bool) (w : Nat) : ∀ n, lst x (w + n) = lst x w ++ lst (fun j => x (w + j)) n
  | 0 => by rw [lst, List.append_nil]; rfl
  | n + 1 => by
    show lst x (w + n) ++ [x (w + n)] = _
    rw [lst_a x w n, lst, List.append_assoc]
theorem lst_mg {d : Nat → Nat} {w la : Nat} {sd : Bool} {O : List Nat} : ∀ n, n ≤ w → lst (xs_ (sQ d w O) w sd la) n = mg_ d n
  | 0, _ => rfl
  | n + 1, h => by
    rw [lst, mg_, lst_mg n (by omega)]
    congr 2
    unfold xs_
    rw [sQ_d (by omega), if_pos (by omega)]
    refine Prod.ext rfl (Prod.ext rfl ?_)
    show (d n % 4 == 3) = decide (d n % 4 = 3)
    cases q : (d n % 4 == 3)
    · exact (decide_eq_false (fun z => by rw [z] at q; cases q)).symm
    · exact (decide_eq_true (beq_p ▸ q)).symm
/-- where the last tile is, as a place among the own sets -/
def aof (w la : Nat) : Option Nat := if la < 4 then some (la - w) else none
theorem lst_tg {w la : Nat} {d : Nat → Nat} {sd : Bool} {O : List Nat} (hO : w + O.length = 4) (hw : w ≤ la) : lst (xs_ (sQ d w O) w sd la) 4 = mg_ d w ++ tg_ sd (aof w la) (O.map fk) := by
  rw [show lst (xs_ (sQ d w O) w sd la) 4 = lst (xs_ (sQ d w O) w sd la) (w + O.length) by rw [hO], lst_a, lst_mg w (Nat.le_refl _)]
  congr 1
  rw [lst_r]
  unfold tg_
  refine List.ext_getElem? (fun i => ?_)
  rw [List.getElem?_map, List.getElem?_mapIdx, List.getElem?_map]
  by_cases hi : i < O.length
  · have e1 : (List.range O.length)[i]? = some i := by rw [List.getElem?_eq_getElem (by rw [List.length_range]; exact hi), List.getElem_range]
    have e2 : O[i]? = some (O.getD i 0) := by rw [List.getD_eq_getElem?_getD, List.getElem?_eq_getElem hi]; rfl
    rw [e1, e2]
    show some (xs_ (sQ d w O) w sd la (w + i)) = some ((fk (O.getD i 0)).1, (fk (O.getD i 0)).2, sd || !(aof w la == some i))
    unfold xs_
    rw [sQ_O, if_neg (by omega)]
    have : (aof w la == some i) = (la == w + i) := by
      unfold aof
      by_cases q : la = w + i
      · rw [if_pos (by omega), q, show w + i - w = i by omega, beq_self_eq_true, beq_self_eq_true]
      · rw [beq_eq_false_iff_ne.mpr q]
        split
        · exact beq_eq_false_iff_ne.mpr (fun z => by injection z with z; omega)
        · rfl
    rw [this]
    rfl
  · rw [List.getElem?_eq_none (by rw [List.length_range]; omega), List.getElem?_eq_none (by omega)]
    rfl
theorem la4_la {w la : Nat} {d : Nat → Nat} {O : List Nat} (hO : w + O.length = 4) (hw : w ≤ la) (hl : la ≤ 4) : la4 (sQ d w O) la = la_ (O.map fk) (aof w la) := by
  unfold la4 aof
  by_cases q : la < 4
  · rw [if_pos q, if_pos q]
    show _ = (O.map fk)[la - w]?
    have e2 : O[la - w]? = some (O.getD (la - w) 0) := by rw [List.getD_eq_getElem?_getD, List.getElem?_eq_getElem (by omega)]; rfl
    rw [List.getElem?_map, e2]
    have : sQ d w O la = O.getD (la - w) 0 := if_neg (by omega)
    rw [this]
    rfl
  · rw [if_neg q, if_neg q]
    rfl
/-- the value of a way with the last tile somewhere -/
noncomputable def vq (E : zE) (hp tl : Nat → Bool) (dr : Nat) (d : Nat → Nat) (w : Nat) (x : Nat × List Nat) (la : Nat) : zV := vL E hp tl dr x.1 (lst (xs_ (sQ d w x.2) w E.2.1 la) 4) (la4 (sQ d w x.2) la)
theorem vq_w {E : zE} {hp tl : Nat → Bool} {dr w la : Nat} {d : Nat → Nat} {x : Nat × List Nat} (hO : w + x.2.length = 4) (hw : w ≤ la) (hl : la ≤ 4) : vq E hp tl dr d w x la = vw_ E hp tl dr d w (x.2.map fk) x.1 (aof w la) := by
  unfold vq
  rw [vw_L, lst_tg hO hw, la4_la hO hw hl]
  exact vL_p List.perm_append_comm
/-- the last tile is there -/
def lth (last : Nat) (d : Nat → Nat) (w : Nat) (x : Nat × List Nat) (la : Nat) : Prop := if la < 4 then 0 < cin_ (sQ d w x.2 la) last else x.1 = last
theorem cin_in {c last : Nat} : 0 < cin_ c last ↔ ins_ last (fk c) := by
  unfold cin_ ins_ fk fm
  by_cases q : c % 4 = 0
  · rw [if_pos q, if_pos q, if_pos (show ((0, c / 4) : Nat × Nat).1 = 0 from rfl)]
    show _ ↔ c / 4 ≤ last ∧ last ≤ c / 4 + 2
    by_cases q2 : c / 4 ≤ last ∧ last ≤ c / 4 + 2
    · rw [if_pos q2]; exact ⟨fun _ => q2, fun _ => by omega⟩
    · rw [if_neg q2]; exact ⟨fun z => by omega, fun z => absurd z q2⟩
  · rw [if_neg q, if_neg q]
    have : ¬ (if c % 4 = 1 then 1 else 2) = 0 := by split <;> omega
    rw [if_neg (show ¬ ((if c % 4 = 1 then 1 else 2, c / 4) : Nat × Nat).1 = 0 from this)]
    show _ ↔ last = c / 4
    by_cases q2 : last = c / 4
    · rw [if_pos q2]; exact ⟨fun _ => q2, fun _ => by split <;> omega⟩
    · rw [if_neg q2]; exact ⟨fun z => by omega, fun z => absurd z q2⟩
theorem lth_at {last w la : Nat} {d : Nat → Nat} {x : Nat × List Nat} (hO : w + x.2.length = 4) (hw : w ≤ la) : lth last d w x la ↔ at_ last x.1 (x.2.map fk) (aof w la) := by
  unfold lth aof
  by_cases q : la < 4
  · rw [if_pos q, if_pos q]
    have e2 : x.2[la - w]? = some (x.2.getD (la - w) 0) := by rw [List.getD_eq_getElem?_getD, List.getElem?_eq_getElem (by omega)]; rfl
    have : sQ d w x.2 la = x.2.getD (la - w) 0 := if_neg (by omega)
    rw [this, cin_in]
    show _ ↔ ∃ y, (x.2.map fk)[la - w]? = some y ∧ ins_ last y
    rw [List.getElem?_map, e2]
    exact ⟨fun h => ⟨_, rfl, h⟩, fun ⟨y, h1, h2⟩ => by injection h1 with h1; rw [← h1] at h2; exact h2⟩
  · rw [if_neg q, if_neg q]
    exact Iff.rfl
theorem way_1 {e : Nat → Nat} (he : ∀ j, e j ≤ 4) {p : Nat} {t : Nat → Nat} (h : way_ e p t) : ∀ j, t j ≤ 1 := fun j => by
  have h1 := h.2.2.1 j
  have h2 := he j
  unfold dn at h1
  split at h1 <;> omega
theorem gO_ltg {α : Type} {O : List α} {i : Nat} {x : α} (h : O[i]? = some x) : i < O.length := Classical.byContradiction (fun z => by
  rw [List.getElem?_eq_none (by omega)] at h
  cases h)
/-- what the table rates, in the readings' words -/
theorem ways_rd {e : Nat → Nat} (he : ∀ j, e j ≤ 4) {E : zE} {hp tl : Nat → Bool} {dr w : Nat} {d : Nat → Nat} (hw4 : ∀ x, x ∈ tA e 34 0 0 0 none [] → w + x.2.length = 4) (v : zV) : (∃ x la, x ∈ tA e 34 0 0 0 none [] ∧ w ≤ la ∧ la ≤ 4 ∧ lth E.2.2.2.2 d w x la ∧ v = vq E hp tl dr d w x la) ↔ ∃ pr t a, way_ e pr t ∧ at_ E.2.2.2.2 pr (ow_ e pr t) a ∧ v = vw_ E hp tl dr d w (ow_ e pr t) pr a := by
  constructor
  · rintro ⟨⟨q, O⟩, la, hx, h1, h2, h3, h4⟩
    have hO := hw4 _ hx
    obtain ⟨t, wt, eO⟩ := (tA_mem he).mp hx
    have hP := clw_ow (e := e) (p := q) (way_1 he wt)
    rw [← eO] at hP
    rw [lth_at hO h1] at h3
    obtain ⟨a', a1, a2⟩ := vw_p (hp := hp) (tl := tl) (dr := dr) (w := w) (d := d) hP h3
    refine ⟨q, t, a', wt, a1, ?_⟩
    rw [h4, vq_w hO h1 h2]
    exact a2
  · rintro ⟨pr, t, a, wt, h1, h2⟩
    have hP := clw_ow (e := e) (p := pr) (way_1 he wt)
    have hx : (pr, clw (fun j => dn e pr 2 j - 3 * t j) t 34 0 0 0) ∈ tA e 34 0 0 0 none [] := (tA_mem he).mpr ⟨t, wt, rfl⟩
    generalize clw (fun j => dn e pr 2 j - 3 * t j) t 34 0 0 0 = O at hP hx
    have hO : w + O.length = 4 := hw4 _ hx
    obtain ⟨a', a1, a2⟩ := vw_p (hp := hp) (tl := tl) (dr := dr) (w := w) (d := d) hP.symm h1
    obtain ⟨la, l1, l2, l3⟩ : ∃ la, w ≤ la ∧ la ≤ 4 ∧ aof w la = a' := by
      cases a' with
      | none => exact ⟨4, by omega, by omega, if_neg (by omega)⟩
      | some i =>
        obtain ⟨y, hy, _⟩ := a1
        have hi : i < O.length := by
          have := gO_ltg hy
          rw [List.length_map] at this
          exact this
        exact ⟨w + i, by omega, by omega, by unfold aof; rw [if_pos (by omega), show w + i - w = i by omega]⟩
    refine ⟨(pr, O), la, hx, l1, l2, ?_, ?_⟩
    · rw [lth_at hO l1, l3]; exact a1
    · rw [vq_w hO l1 l2, l3, h2]; exact a2
