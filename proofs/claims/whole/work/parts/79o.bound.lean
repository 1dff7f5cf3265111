/-! THE TABLE'S WAYS ARE AT MOST EIGHT -/
theorem tA_len {e : Nat → Nat} : ∀ n k a b (pr pr' : Option Nat) (O O' : List Nat), pn pr = pn pr' → (tA e n k a b pr O).length = (tA e n k a b pr' O').length := by
  intro n
  induction n with
  | zero =>
    intro k a b pr pr' O O' h
    cases pr <;> cases pr' <;> first | rfl | (exact absurd h (by intro z; cases z))
  | succ n ih =>
    intro k a b pr pr' O O' h
    have hn : (pr = none) = (pr' = none) := by
      cases pr with
      | none =>
        cases pr' with
        | none => rfl
        | some q => exact absurd h (by intro z; cases z)
      | some p =>
        cases pr' with
        | none => exact absurd h (by intro z; cases z)
        | some q => exact propext ⟨(fun z => by cases z), (fun z => by cases z)⟩
    have one : ∀ (c : Prop) (x y : List (Nat × List Nat)), x.length = y.length → (if bb c = true then x else []).length = (if bb c = true then y else []).length := fun c x y h => by split; exact h; rfl
    rw [tA, tA, hn]
    simp only [List.length_append]
    refine congr (congrArg HAdd.hAdd ?_) (congr (congrArg HAdd.hAdd ?_) (congr (congrArg HAdd.hAdd ?_) ?_))
    · exact one _ _ _ (ih _ _ _ _ _ _ _ h)
    · exact one _ _ _ (ih _ _ _ _ _ _ _ rfl)
    · exact one _ _ _ (ih _ _ _ _ _ _ _ h)
    · exact one _ _ _ (ih _ _ _ _ _ _ _ rfl)
/-- how many ways from a state on; none where the tiles are not there -/
noncomputable def cV (e : Nat → Nat) (n k : Nat) (s : Nat × Nat × Bool) : Nat := if bb ((0 < n → s.1 ≤ e k) ∧ (1 < n → s.2.1 ≤ e (k + 1))) = true then (tA e n k s.1 s.2.1 (if s.2.2 = true then some 0 else none) []).length else 0
noncomputable def sV (e : Nat → Nat) (n k : Nat) (M : List (Nat × Nat × Bool)) : Nat := (M.map (cV e n k)).sum
theorem cV_l {e : Nat → Nat} {n k a b : Nat} {pr : Option Nat} {O : List Nat} {p : Bool} (h : pn pr = if p = true then 1 else 0) (h1 : 0 < n → a ≤ e k) (h2 : 1 < n → b ≤ e (k + 1)) : (tA e n k a b pr O).length = cV e n k (a, b, p) := by
  unfold cV
  rw [if_pos (bb_t ⟨h1, h2⟩)]
  refine tA_len n k a b _ _ _ _ ?_
  rw [h]
  cases p <;> rfl
theorem sV_c (e : Nat → Nat) (n k : Nat) (s : Nat × Nat × Bool) (M : List (Nat × Nat × Bool)) : sV e n k (s :: M) = cV e n k s + sV e n k M := by
  unfold sV
  rw [List.map_cons, List.sum_cons]
theorem ble_t {a b : Nat} (h : a ≤ b) : Nat.ble a b = true := Nat.ble_eq_true_of_le h
theorem beq_t {a b : Nat} (h : a = b) : Nat.beq a b = true := by subst h; exact Nat.beq_refl a
theorem beq_n {a b : Nat} (h : ¬ a = b) : Nat.beq a b = false := by
  cases q : Nat.beq a b
  · rfl
  · exact absurd (Nat.eq_of_beq_eq_true q) h
theorem cV_s {e : Nat → Nat} (he : ∀ j, e j ≤ 4) {n k : Nat} (hk : k + (n + 1) = 34) {ok : Bool} (hok : ok = decide (k < 27 ∧ k % 9 ≤ 6)) (s : Nat × Nat × Bool) (M : List (Nat × Nat × Bool)) : cV e (n + 1) k s + sV e n (k + 1) M ≤ sV e n (k + 1) (suc (e k) ok s M) := by
  obtain ⟨a, b, p⟩ := s
  by_cases hv : (0 < n + 1 → a ≤ e k) ∧ (1 < n + 1 → b ≤ e (k + 1))
  · have ek := he k
    have hak := hv.1 (by omega)
    have e1 : cV e (n + 1) k (a, b, p) = (tA e (n + 1) k a b (if p = true then some 0 else none) []).length := by
      unfold cV
      rw [if_pos (bb_t hv)]
    rw [e1, tA]
    simp only [List.length_append]
    unfold suc
    rw [ble_t hak]
    show _ ≤ sV e n (k + 1) ((fun x => (fun M => bif (Nat.beq x 0 || ok) then (b + x, x, p) :: M else M) ((fun M => bif (Nat.ble 2 x && !p && (Nat.beq x 2 || ok)) then (b + (x - 2), x - 2, true) :: M else M) ((fun M => bif (Nat.ble 3 x && (Nat.beq x 3 || ok)) then (b + (x - 3), x - 3, p) :: M else M) M))) (e k - a))
    dsimp only
    generalize hx : e k - a = x
    have pnp : pn (if p = true then some 0 else none) = if p = true then 1 else 0 := by cases p <;> rfl
    have rok : ∀ r, runOk e k b r → (Nat.beq r 0 || ok) = true := fun r h => by
      rcases h with h | h
      · rw [beq_t h]; rfl
      · rw [hok, decide_eq_true ⟨h.1, h.2.1⟩, Bool.or_true]
    have val : ∀ r (pr : Option Nat) (O : List Nat) (q : Bool), pn pr = (if q = true then 1 else 0) → runOk e k b r → (tA e n (k + 1) (b + r) r pr O).length = cV e n (k + 1) (b + r, r, q) := fun r pr O q hq h => by
      refine cV_l hq (fun z => ?_) (fun z => ?_)
      · have := hv.2 (by omega)
        rcases h with h | h <;> omega
      · rcases h with h | h
        · omega
        · exact h.2.2.2
    have A3 : (if bb (5 ≤ x ∧ (if p = true then some 0 else none) = none ∧ runOk e k b (x - 5)) = true then tA e n (k + 1) (b + (x - 5)) (x - 5) (some k) (([] ++ [4 * k + 1]) ++ List.replicate (x - 5) (4 * k)) else []).length = 0 := by
      rw [if_neg (fun z => by have := (bb_iff.mp z).1; omega)]; rfl
    have A2 : ∀ M, (if bb (3 ≤ x ∧ runOk e k b (x - 3)) = true then tA e n (k + 1) (b + (x - 3)) (x - 3) (if p = true then some 0 else none) (([] ++ [4 * k + 1]) ++ List.replicate (x - 3) (4 * k)) else []).length + sV e n (k + 1) M ≤ sV e n (k + 1) (bif (Nat.ble 3 x && (Nat.beq x 3 || ok)) then (b + (x - 3), x - 3, p) :: M else M) := by
      intro M
      by_cases q : 3 ≤ x ∧ runOk e k b (x - 3)
      · have h3 := rok _ q.2
        have : (Nat.ble 3 x && (Nat.beq x 3 || ok)) = true := by
          rw [ble_t q.1, Bool.true_and]
          rcases Bool.or_eq_true_iff.mp h3 with z | z
          · rw [beq_t (show x = 3 by have := Nat.eq_of_beq_eq_true z; omega)]; rfl
          · rw [z, Bool.or_true]
        rw [if_pos (bb_t q), this, cond_true, sV_c, val _ _ _ p pnp q.2]
        exact Nat.le_refl _
      · rw [if_neg (fun z => q (bb_iff.mp z))]
        cases (Nat.ble 3 x && (Nat.beq x 3 || ok))
        · rw [cond_false]; show 0 + _ ≤ _; omega
        · rw [cond_true, sV_c]; show 0 + _ ≤ _; omega
    have A1 : ∀ M, (if bb (2 ≤ x ∧ (if p = true then some 0 else none) = none ∧ runOk e k b (x - 2)) = true then tA e n (k + 1) (b + (x - 2)) (x - 2) (some k) ([] ++ List.replicate (x - 2) (4 * k)) else []).length + sV e n (k + 1) M ≤ sV e n (k + 1) (bif (Nat.ble 2 x && !p && (Nat.beq x 2 || ok)) then (b + (x - 2), x - 2, true) :: M else M) := by
      intro M
      by_cases q : 2 ≤ x ∧ (if p = true then some 0 else none) = none ∧ runOk e k b (x - 2)
      · have h3 := rok _ q.2.2
        have hp : p = false := by
          cases p
          · rfl
          · exact absurd q.2.1 (by simp)
        have : (Nat.ble 2 x && !p && (Nat.beq x 2 || ok)) = true := by
          rw [ble_t q.1, hp, Bool.not_false, Bool.true_and, Bool.true_and]
          rcases Bool.or_eq_true_iff.mp h3 with z | z
          · rw [beq_t (show x = 2 by have := Nat.eq_of_beq_eq_true z; omega)]; rfl
          · rw [z, Bool.or_true]
        rw [if_pos (bb_t q), this, cond_true, sV_c, val _ (some k) _ true rfl q.2.2]
        exact Nat.le_refl _
      · rw [if_neg (fun z => q (bb_iff.mp z))]
        cases (Nat.ble 2 x && !p && (Nat.beq x 2 || ok))
        · rw [cond_false]; show 0 + _ ≤ _; omega
        · rw [cond_true, sV_c]; show 0 + _ ≤ _; omega
    have A0 : ∀ M, (if bb (0 ≤ x ∧ runOk e k b x) = true then tA e n (k + 1) (b + x) x (if p = true then some 0 else none) ([] ++ List.replicate x (4 * k)) else []).length + sV e n (k + 1) M ≤ sV e n (k + 1) (bif (Nat.beq x 0 || ok) then (b + x, x, p) :: M else M) := by
      intro M
      by_cases q : 0 ≤ x ∧ runOk e k b x
      · rw [if_pos (bb_t q), rok _ q.2, cond_true, sV_c, val _ _ _ p pnp q.2]
        exact Nat.le_refl _
      · rw [if_neg (fun z => q (bb_iff.mp z))]
        cases (Nat.beq x 0 || ok)
        · rw [cond_false]; show 0 + _ ≤ _; omega
        · rw [cond_true, sV_c]; show 0 + _ ≤ _; omega
    have h2 := A2 M
    have h1 := A1 (bif (Nat.ble 3 x && (Nat.beq x 3 || ok)) then (b + (x - 3), x - 3, p) :: M else M)
    have h0 := A0 (bif (Nat.ble 2 x && !p && (Nat.beq x 2 || ok)) then (b + (x - 2), x - 2, true) :: (bif (Nat.ble 3 x && (Nat.beq x 3 || ok)) then (b + (x - 3), x - 3, p) :: M else M) else (bif (Nat.ble 3 x && (Nat.beq x 3 || ok)) then (b + (x - 3), x - 3, p) :: M else M))
    rw [A3]
    omega
  · have z : cV e (n + 1) k (a, b, p) = 0 := by
      unfold cV
      rw [if_neg (fun z => hv (bb_iff.mp z))]
    rw [z, Nat.zero_add]
    unfold suc
    have mono : ∀ (c : Bool) s M, sV e n (k + 1) M ≤ sV e n (k + 1) (bif c then s :: M else M) := fun c s M => by
      cases c
      · exact Nat.le_refl _
      · rw [cond_true, sV_c]; omega
    cases Nat.ble (a, b, p).1 (e k)
    · exact Nat.le_refl _
    · rw [cond_true]
      exact Nat.le_trans (mono _ _ _) (Nat.le_trans (mono _ _ _) (mono _ _ _))
theorem sV_s {e : Nat → Nat} (he : ∀ j, e j ≤ 4) {n k : Nat} (hk : k + (n + 1) = 34) {ok : Bool} (hok : ok = decide (k < 27 ∧ k % 9 ≤ 6)) : ∀ M, sV e (n + 1) k M ≤ sV e n (k + 1) (sM (e k) ok M)
  | [] => Nat.le_refl _
  | s :: M => by
    have ih := sV_s he hk hok M
    have h := cV_s he hk hok s (sM (e k) ok M)
    rw [sV_c]
    show _ ≤ sV e n (k + 1) (suc (e k) ok s (sM (e k) ok M))
    omega
theorem sV_i {e : Nat → Nat} (he : ∀ j, e j ≤ 4) {k0 : Nat} (hs : k0 = 0 ∨ k0 = 9 ∨ k0 = 18) : ∀ l r n M, k0 + r + (n + l) = 34 → r + l = 9 → sV e (n + l) (k0 + r) M ≤ sV e n (k0 + r + l) (itr (fun j => e (k0 + j)) l r M)
  | 0, r, n, M, h, hr => Nat.le_refl _
  | l + 1, r, n, M, h, hr => by
    rw [itr]
    have h1 := sV_s he (n := n + l) (k := k0 + r) (by omega) (ok := Nat.ble r 6) (by
      by_cases q : r ≤ 6
      · rw [ble_t q]
        exact (decide_eq_true (by omega)).symm
      · rw [ble_n (by omega)]
        exact (decide_eq_false (by omega)).symm) M
    have h2 := sV_i he hs l (r + 1) n (sM (e (k0 + r)) (Nat.ble r 6) M) (by omega) (by omega)
    rw [show k0 + (r + 1) = k0 + r + 1 by omega, show k0 + r + 1 + l = k0 + r + (l + 1) by omega] at h2
    exact Nat.le_trans h1 h2
/-- behind a suit nothing is borrowed -/
def Va (r : Nat) (s : Nat × Nat × Bool) : Prop := (r = 9 → s.1 = 0 ∧ s.2.1 = 0) ∧ (r = 8 → s.2.1 = 0)
theorem suc_v {c r : Nat} {s : Nat × Nat × Bool} {M : List (Nat × Nat × Bool)} (hs : Va r s) (hM : ∀ x, x ∈ M → Va (r + 1) x) : ∀ x, x ∈ suc c (Nat.ble r 6) s M → Va (r + 1) x := by
  obtain ⟨a, b, p⟩ := s
  have nw : ∀ y q, (Nat.beq y 0 || Nat.ble r 6) = true → Va (r + 1) (b + y, y, q) := by
    intro y q h
    refine ⟨fun z => ?_, fun z => ?_⟩
    · have h8 := hs.2 (by omega)
      rw [ble_n (show 6 < r by omega), Bool.or_false] at h
      have := Nat.eq_of_beq_eq_true h
      show b + y = 0 ∧ y = 0
      have : b = 0 := h8
      omega
    · rw [ble_n (show 6 < r by omega), Bool.or_false] at h
      exact Nat.eq_of_beq_eq_true h
  unfold suc
  cases Nat.ble (a, b, p).1 c
  · exact hM
  · rw [cond_true]
    dsimp only
    generalize c - a = y
    have cons : ∀ (q : Bool) (t : Nat × Nat × Bool) (N : List (Nat × Nat × Bool)), (q = true → Va (r + 1) t) → (∀ x, x ∈ N → Va (r + 1) x) → ∀ x, x ∈ (bif q then t :: N else N) → Va (r + 1) x := by
      intro q t N ht hN x hx
      cases q
      · exact hN x hx
      · rw [cond_true] at hx
        rcases List.mem_cons.mp hx with e | e
        · rw [e]; exact ht rfl
        · exact hN x e
    refine cons _ _ _ (fun h => nw y p h) (cons _ _ _ (fun h => ?_) (cons _ _ _ (fun h => ?_) hM))
    · rw [Bool.and_eq_true, Bool.and_eq_true] at h
      refine nw (y - 2) true ?_
      rcases Bool.or_eq_true_iff.mp h.2 with z | z
      · rw [beq_t (show y - 2 = 0 by have := Nat.eq_of_beq_eq_true z; omega)]; rfl
      · rw [z, Bool.or_true]
    · rw [Bool.and_eq_true] at h
      refine nw (y - 3) p ?_
      rcases Bool.or_eq_true_iff.mp h.2 with z | z
      · rw [beq_t (show y - 3 = 0 by have := Nat.eq_of_beq_eq_true z; omega)]; rfl
      · rw [z, Bool.or_true]
theorem sM_v {c r : Nat} : ∀ M, (∀ x, x ∈ M → Va r x) → ∀ x, x ∈ sM c (Nat.ble r 6) M → Va (r + 1) x
  | [], _ => fun x hx => by cases hx
  | s :: M, h => by
    have ih := sM_v (c := c) M (fun x hx => h x (List.mem_cons_of_mem _ hx))
    exact suc_v (h s List.mem_cons_self) ih
theorem itr_v {c : Nat → Nat} : ∀ l r M, (∀ x, x ∈ M → Va r x) → ∀ x, x ∈ itr c l r M → Va (r + l) x
  | 0, r, M, h => h
  | l + 1, r, M, h => by
    have := itr_v (c := c) l (r + 1) _ (sM_v (c := c r) M h)
    rw [show r + 1 + l = r + (l + 1) by omega] at this
    exact this
theorem sV_00 {e : Nat → Nat} {n k : Nat} : ∀ M : List (Nat × Nat × Bool), (∀ x, x ∈ M → x.1 = 0 ∧ x.2.1 = 0) → sV e n k M = M.countP (fun s => !s.2.2) * cV e n k (0, 0, false) + M.countP (fun s => s.2.2) * cV e n k (0, 0, true)
  | [], _ => by simp [sV]
  | s :: M, h => by
    have ih := sV_00 (e := e) (n := n) (k := k) M (fun x hx => h x (List.mem_cons_of_mem _ hx))
    obtain ⟨h1, h2⟩ := h s List.mem_cons_self
    obtain ⟨a, b, p⟩ := s
    have h1 : a = 0 := h1
    have h2 : b = 0 := h2
    subst h1 h2
    rw [sV_c, ih]
    cases p
    · simp [List.countP_cons, Nat.add_mul]; omega
    · simp [List.countP_cons, Nat.add_mul]; omega
theorem suit_F {e : Nat → Nat} (he : ∀ j, e j ≤ 4) {k0 n : Nat} (hs : k0 = 0 ∨ k0 = 9 ∨ k0 = 18) (hn : k0 + (n + 9) = 34) (h14 : smf (fun j => e (k0 + j)) 9 0 ≤ 14) : cV e (n + 9) k0 (0, 0, false) ≤ cX (smf (fun j => e (k0 + j)) 9 0) * cV e n (k0 + 9) (0, 0, false) + cY (smf (fun j => e (k0 + j)) 9 0) * cV e n (k0 + 9) (0, 0, true) := by
  have h1 := sV_i he hs 9 0 n [(0, 0, false)] (by omega) rfl
  have h2 := itr_v (c := fun j => e (k0 + j)) 9 0 [(0, 0, false)] (fun x _ => ⟨fun z => by omega, fun z => by omega⟩)
  have h3 := chk_s (fun j => e (k0 + j)) (fun j => he _) 9 0 [(0, 0, false)] 0 chk_ok (by omega)
  rw [Nat.zero_add] at h3
  rw [sV_00 _ (fun x hx => (h2 x hx).1 rfl)] at h1
  have e0 : sV e (n + 9) (k0 + 0) [(0, 0, false)] = cV e (n + 9) k0 (0, 0, false) := by rw [sV_c]; rfl
  rw [e0] at h1
  exact Nat.le_trans h1 (Nat.add_le_add (Nat.mul_le_mul_right _ h3.1) (Nat.mul_le_mul_right _ h3.2))
theorem suc_T {c : Nat} {ok : Bool} {s : Nat × Nat × Bool} {M : List (Nat × Nat × Bool)} (hs : s.2.2 = true) (hM : ∀ x, x ∈ M → x.2.2 = true) : ∀ x, x ∈ suc c ok s M → x.2.2 = true := by
  obtain ⟨a, b, p⟩ := s
  have hp : p = true := hs
  subst hp
  unfold suc
  cases Nat.ble (a, b, true).1 c
  · exact hM
  · rw [cond_true]
    dsimp only
    generalize c - a = y
    have cons : ∀ (q : Bool) (t : Nat × Nat × Bool) (N : List (Nat × Nat × Bool)), t.2.2 = true → (∀ x, x ∈ N → x.2.2 = true) → ∀ x, x ∈ (bif q then t :: N else N) → x.2.2 = true := by
      intro q t N ht hN x hx
      cases q
      · exact hN x hx
      · rw [cond_true] at hx
        rcases List.mem_cons.mp hx with e | e
        · rw [e]; exact ht
        · exact hN x e
    exact cons _ _ _ rfl (cons _ _ _ rfl (cons _ _ _ rfl hM))
theorem sM_T {c : Nat} {ok : Bool} : ∀ M : List (Nat × Nat × Bool), (∀ x, x ∈ M → x.2.2 = true) → ∀ x, x ∈ sM c ok M → x.2.2 = true
  | [], _ => fun x hx => by cases hx
  | s :: M, h => suc_T (h s List.mem_cons_self) (sM_T M (fun x hx => h x (List.mem_cons_of_mem _ hx)))
theorem itr_T {c : Nat → Nat} : ∀ l r M, (∀ x : Nat × Nat × Bool, x ∈ M → x.2.2 = true) → ∀ x, x ∈ itr c l r M → x.2.2 = true
  | 0, _, _, h => h
  | l + 1, r, M, h => itr_T (c := c) l (r + 1) _ (sM_T M h)
theorem suit_T {e : Nat → Nat} (he : ∀ j, e j ≤ 4) {k0 n : Nat} (hs : k0 = 0 ∨ k0 = 9 ∨ k0 = 18) (hn : k0 + (n + 9) = 34) (h14 : smf (fun j => e (k0 + j)) 9 0 ≤ 14) : cV e (n + 9) k0 (0, 0, true) ≤ cX (smf (fun j => e (k0 + j)) 9 0) * cV e n (k0 + 9) (0, 0, true) := by
  have h1 := sV_i he hs 9 0 n [(0, 0, true)] (by omega) rfl
  have h2 := itr_v (c := fun j => e (k0 + j)) 9 0 [(0, 0, true)] (fun x _ => ⟨fun z => by omega, fun z => by omega⟩)
  have h4 := itr_T (c := fun j => e (k0 + j)) 9 0 [(0, 0, true)] (fun x hx => by rw [List.mem_singleton.mp hx])
  have h3 := chkT_s (fun j => e (k0 + j)) (fun j => he _) 9 0 [(0, 0, true)] 0 chkT_ok (by omega)
  rw [Nat.zero_add] at h3
  rw [sV_00 _ (fun x hx => (h2 x hx).1 rfl)] at h1
  have z : (itr (fun j => e (k0 + j)) 9 0 [(0, 0, true)]).countP (fun s => !s.2.2) = 0 := List.countP_eq_zero.mpr (fun x hx => by rw [h4 x hx]; decide)
  have t : (itr (fun j => e (k0 + j)) 9 0 [(0, 0, true)]).countP (fun s => s.2.2) ≤ (itr (fun j => e (k0 + j)) 9 0 [(0, 0, true)]).length := List.countP_le_length
  rw [z, Nat.zero_mul, Nat.zero_add] at h1
  have e0 : sV e (n + 9) (k0 + 0) [(0, 0, true)] = cV e (n + 9) k0 (0, 0, true) := by rw [sV_c]; rfl
  rw [e0] at h1
  exact Nat.le_trans h1 (Nat.mul_le_mul_right _ (Nat.le_trans t h3))
/-- honours lie in one way at most -/
theorem hon_1 {e : Nat → Nat} (he : ∀ j, e j ≤ 4) : ∀ n k s, k + n = 34 → 27 ≤ k → cV e n k s ≤ 1 := by
  intro n
  induction n with
  | zero =>
    intro k s _ _
    unfold cV
    split
    · obtain ⟨a, b, p⟩ := s
      cases p
      · exact Nat.zero_le _
      · exact Nat.le_refl _
    · omega
  | succ n ih =>
    intro k s hk hk2
    have h := cV_s he hk (ok := false) (by rw [decide_eq_false (by omega)]) s []
    have e0 : sV e n (k + 1) [] = 0 := rfl
    rw [e0, Nat.add_zero] at h
    refine Nat.le_trans h ?_
    obtain ⟨a, b, p⟩ := s
    unfold suc
    cases Nat.ble (a, b, p).1 (e k)
    · rw [cond_false, e0]; omega
    · rw [cond_true]
      dsimp only
      generalize e k - a = y
      simp only [Bool.or_false]
      have one : ∀ t, sV e n (k + 1) [t] ≤ 1 := fun t => by
        rw [sV_c, e0]
        exact ih (k + 1) t (by omega) (by omega)
      by_cases q0 : y = 0
      · subst q0
        exact one _
      · rw [beq_n q0, cond_false]
        by_cases q2 : y = 2
        · subst q2
          cases p
          · exact one _
          · exact Nat.zero_le _
        · rw [beq_n q2, Bool.and_false, cond_false]
          by_cases q3 : y = 3
          · subst q3
            exact one _
          · rw [beq_n q3, Bool.and_false, cond_false, e0]; omega
theorem smf_c (e : Nat → Nat) : ∀ l k, smf e l k + csum e k = csum e (k + l)
  | 0, k => by rw [smf]; exact Nat.zero_add _
  | l + 1, k => by
    have := smf_c e l (k + 1)
    rw [smf, show k + (l + 1) = k + 1 + l by omega, ← this, csum]
    omega
theorem smf_s (e : Nat → Nat) (k0 : Nat) : ∀ l r, smf (fun j => e (k0 + j)) l r = smf e l (k0 + r)
  | 0, _ => rfl
  | l + 1, r => by rw [smf, smf, smf_s e k0 l (r + 1)]; rfl
theorem ways_8 {e : Nat → Nat} (he : ∀ j, e j ≤ 4) (h14 : csum e 34 ≤ 14) : (tA e 34 0 0 0 none []).length ≤ 8 := by
  have c1 : smf e 9 0 + csum e 0 = csum e 9 := smf_c e 9 0
  have c2 : smf e 9 9 + csum e 9 = csum e 18 := smf_c e 9 9
  have c3 : smf e 9 18 + csum e 18 = csum e 27 := smf_c e 9 18
  have m1 := csum_mono (c := e) (show 27 ≤ 34 by omega)
  have z0 : csum e 0 = 0 := rfl
  have t1 : smf (fun j => e (0 + j)) 9 0 = smf e 9 0 := smf_s e 0 9 0
  have t2 : smf (fun j => e (9 + j)) 9 0 = smf e 9 9 := smf_s e 9 9 0
  have t3 : smf (fun j => e (18 + j)) 9 0 = smf e 9 18 := smf_s e 18 9 0
  have f1 := suit_F he (k0 := 0) (n := 25) (Or.inl rfl) rfl (by rw [t1]; omega)
  have f2 := suit_F he (k0 := 9) (n := 16) (Or.inr (Or.inl rfl)) rfl (by rw [t2]; omega)
  have f3 := suit_F he (k0 := 18) (n := 7) (Or.inr (Or.inr rfl)) rfl (by rw [t3]; omega)
  have g2 := suit_T he (k0 := 9) (n := 16) (Or.inr (Or.inl rfl)) rfl (by rw [t2]; omega)
  have g3 := suit_T he (k0 := 18) (n := 7) (Or.inr (Or.inr rfl)) rfl (by rw [t3]; omega)
  rw [t1] at f1
  rw [t2] at f2 g2
  rw [t3] at f3 g3
  have hF := hon_1 he 7 27 (0, 0, false) rfl (by omega)
  have hT := hon_1 he 7 27 (0, 0, true) rfl (by omega)
  have key := cXY (smf e 9 0) (by omega) (smf e 9 9) (by omega) (smf e 9 18) (by omega) (by omega)
  have e0 : (tA e 34 0 0 0 none []).length = cV e 34 0 (0, 0, false) := cV_l rfl (fun _ => Nat.zero_le _) (fun _ => Nat.zero_le _)
  rw [e0]
  have f3' : cV e 16 18 (0, 0, false) ≤ cX (smf e 9 18) + cY (smf e 9 18) := Nat.le_trans f3 (Nat.add_le_add (Nat.le_trans (Nat.mul_le_mul_left (cX (smf e 9 18)) hF) (Nat.le_of_eq (Nat.mul_one _))) (Nat.le_trans (Nat.mul_le_mul_left (cY (smf e 9 18)) hT) (Nat.le_of_eq (Nat.mul_one _))))
  have g3' : cV e 16 18 (0, 0, true) ≤ cX (smf e 9 18) := Nat.le_trans g3 (Nat.le_trans (Nat.mul_le_mul_left (cX (smf e 9 18)) hT) (Nat.le_of_eq (Nat.mul_one _)))
  have f2' : cV e 25 9 (0, 0, false) ≤ cX (smf e 9 9) * (cX (smf e 9 18) + cY (smf e 9 18)) + cY (smf e 9 9) * cX (smf e 9 18) := Nat.le_trans f2 (Nat.add_le_add (Nat.mul_le_mul_left _ f3') (Nat.mul_le_mul_left _ g3'))
  have g2' : cV e 25 9 (0, 0, true) ≤ cX (smf e 9 9) * cX (smf e 9 18) := Nat.le_trans g2 (Nat.mul_le_mul_left _ g3')
  exact Nat.le_trans f1 (Nat.le_trans (Nat.add_le_add (Nat.mul_le_mul_left _ f2') (Nat.mul_le_mul_left _ g2')) key)
