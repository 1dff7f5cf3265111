/-! NO HAND HAS MORE THAN EIGHT WAYS -/
/-- where one kind leads: tiles taken here, on the next kind, whether the pair is chosen -/
def suc (c : Nat) (ok : Bool) (s : Nat × Nat × Bool) (M : List (Nat × Nat × Bool)) : List (Nat × Nat × Bool) :=
  bif Nat.ble s.1 c then
    (fun x =>
      (fun M => bif (Nat.beq x 0 || ok) then (s.2.1 + x, x, s.2.2) :: M else M)
      ((fun M => bif (Nat.ble 2 x && !s.2.2 && (Nat.beq x 2 || ok)) then (s.2.1 + (x - 2), x - 2, true) :: M else M)
      ((fun M => bif (Nat.ble 3 x && (Nat.beq x 3 || ok)) then (s.2.1 + (x - 3), x - 3, s.2.2) :: M else M) M))) (c - s.1)
  else M
def sM (c : Nat) (ok : Bool) (M : List (Nat × Nat × Bool)) : List (Nat × Nat × Bool) := M.foldr (suc c ok) []
def cX (n : Nat) : Nat := ([1, 0, 0, 1, 0, 0, 1, 0, 0, 2, 0, 0, 3, 0, 0] : List Nat).getD n 0
def cY (n : Nat) : Nat := ([0, 0, 1, 0, 0, 1, 0, 0, 2, 0, 0, 3, 0, 0, 4] : List Nat).getD n 0
def chk : Nat → Nat → List (Nat × Nat × Bool) → Nat → Bool
  | 0, _, M, u => Nat.ble (M.countP (fun s => !s.2.2)) (cX u) && Nat.ble (M.countP (fun s => s.2.2)) (cY u)
  | l + 1, r, M, u => match M with
    | [] => true
    | s :: M => chk l (r + 1) (sM 0 (Nat.ble r 6) (s :: M)) u && (Nat.ble 15 (u + 1) || (chk l (r + 1) (sM 1 (Nat.ble r 6) (s :: M)) (u + 1) && (Nat.ble 15 (u + 2) || (chk l (r + 1) (sM 2 (Nat.ble r 6) (s :: M)) (u + 2) && (Nat.ble 15 (u + 3) || (chk l (r + 1) (sM 3 (Nat.ble r 6) (s :: M)) (u + 3) && (Nat.ble 15 (u + 4) || chk l (r + 1) (sM 4 (Nat.ble r 6) (s :: M)) (u + 4))))))))
theorem chk_ok : chk 9 0 [(0, 0, false)] 0 = true := by decide +kernel
def chkT : Nat → Nat → List (Nat × Nat × Bool) → Nat → Bool
  | 0, _, M, u => Nat.ble M.length (cX u)
  | l + 1, r, M, u => match M with
    | [] => true
    | s :: M => chkT l (r + 1) (sM 0 (Nat.ble r 6) (s :: M)) u && (Nat.ble 15 (u + 1) || (chkT l (r + 1) (sM 1 (Nat.ble r 6) (s :: M)) (u + 1) && (Nat.ble 15 (u + 2) || (chkT l (r + 1) (sM 2 (Nat.ble r 6) (s :: M)) (u + 2) && (Nat.ble 15 (u + 3) || (chkT l (r + 1) (sM 3 (Nat.ble r 6) (s :: M)) (u + 3) && (Nat.ble 15 (u + 4) || chkT l (r + 1) (sM 4 (Nat.ble r 6) (s :: M)) (u + 4))))))))
theorem chkT_ok : chkT 9 0 [(0, 0, true)] 0 = true := by decide +kernel
theorem cXY : ∀ a, a < 15 → ∀ b, b < 15 → ∀ c, c < 15 → a + b + c ≤ 14 → cX a * (cX b * (cX c + cY c) + cY b * cX c) + cY a * (cX b * cX c) ≤ 8 := by decide +kernel
def itr (c : Nat → Nat) : Nat → Nat → List (Nat × Nat × Bool) → List (Nat × Nat × Bool)
  | 0, _, M => M
  | l + 1, r, M => itr c l (r + 1) (sM (c r) (Nat.ble r 6) M)
def smf (c : Nat → Nat) : Nat → Nat → Nat
  | 0, _ => 0
  | l + 1, r => c r + smf c l (r + 1)
theorem itr_0 (c : Nat → Nat) : ∀ l r, itr c l r [] = []
  | 0, _ => rfl
  | l + 1, r => by
    rw [itr]
    exact itr_0 c l (r + 1)
theorem ble_n {a b : Nat} (h : b < a) : Nat.ble a b = false := by
  cases q : Nat.ble a b
  · rfl
  · have := Nat.le_of_ble_eq_true q
    omega
theorem chk_s (c : Nat → Nat) (hc : ∀ j, c j ≤ 4) : ∀ l r M u, chk l r M u = true → u + smf c l r ≤ 14 → (itr c l r M).countP (fun s => !s.2.2) ≤ cX (u + smf c l r) ∧ (itr c l r M).countP (fun s => s.2.2) ≤ cY (u + smf c l r)
  | 0, r, M, u, h, hu => by
    rw [chk, Bool.and_eq_true] at h
    exact ⟨Nat.le_of_ble_eq_true h.1, Nat.le_of_ble_eq_true h.2⟩
  | l + 1, r, [], u, h, hu => by
    rw [itr_0]
    exact ⟨Nat.zero_le _, Nat.zero_le _⟩
  | l + 1, r, s :: M, u, h, hu => by
    rw [itr]
    rw [smf] at hu ⊢
    have hc4 := hc r
    rw [chk] at h
    have go : chk l (r + 1) (sM (c r) (Nat.ble r 6) (s :: M)) (u + c r) = true := by
      rw [Bool.and_eq_true] at h
      rcases (show c r = 0 ∨ c r = 1 ∨ c r = 2 ∨ c r = 3 ∨ c r = 4 by omega) with e | e | e | e | e <;> rw [e] at hu ⊢
      · exact h.1
      · rw [ble_n (show u + 1 < 15 by omega), Bool.false_or, Bool.and_eq_true] at h
        exact h.2.1
      · rw [ble_n (show u + 1 < 15 by omega), Bool.false_or, Bool.and_eq_true, ble_n (show u + 2 < 15 by omega), Bool.false_or, Bool.and_eq_true] at h
        exact h.2.2.1
      · rw [ble_n (show u + 1 < 15 by omega), Bool.false_or, Bool.and_eq_true, ble_n (show u + 2 < 15 by omega), Bool.false_or, Bool.and_eq_true, ble_n (show u + 3 < 15 by omega), Bool.false_or, Bool.and_eq_true] at h
        exact h.2.2.2.1
      · rw [ble_n (show u + 1 < 15 by omega), Bool.false_or, Bool.and_eq_true, ble_n (show u + 2 < 15 by omega), Bool.false_or, Bool.and_eq_true, ble_n (show u + 3 < 15 by omega), Bool.false_or, Bool.and_eq_true, ble_n (show u + 4 < 15 by omega), Bool.false_or] at h
        exact h.2.2.2.2
    have := chk_s c hc l (r + 1) _ (u + c r) go (by omega)
    rw [Nat.add_assoc] at this
    exact this
theorem chkT_s (c : Nat → Nat) (hc : ∀ j, c j ≤ 4) : ∀ l r M u, chkT l r M u = true → u + smf c l r ≤ 14 → (itr c l r M).length ≤ cX (u + smf c l r)
  | 0, r, M, u, h, hu => Nat.le_of_ble_eq_true h
  | l + 1, r, [], u, h, hu => by
    rw [itr_0]
    exact Nat.zero_le _
  | l + 1, r, s :: M, u, h, hu => by
    rw [itr]
    rw [smf] at hu ⊢
    have hc4 := hc r
    rw [chkT] at h
    have go : chkT l (r + 1) (sM (c r) (Nat.ble r 6) (s :: M)) (u + c r) = true := by
      rw [Bool.and_eq_true] at h
      rcases (show c r = 0 ∨ c r = 1 ∨ c r = 2 ∨ c r = 3 ∨ c r = 4 by omega) with e | e | e | e | e <;> rw [e] at hu ⊢
      · exact h.1
      · rw [ble_n (show u + 1 < 15 by omega), Bool.false_or, Bool.and_eq_true] at h
        exact h.2.1
      · rw [ble_n (show u + 1 < 15 by omega), Bool.false_or, Bool.and_eq_true, ble_n (show u + 2 < 15 by omega), Bool.false_or, Bool.and_eq_true] at h
        exact h.2.2.1
      · rw [ble_n (show u + 1 < 15 by omega), Bool.false_or, Bool.and_eq_true, ble_n (show u + 2 < 15 by omega), Bool.false_or, Bool.and_eq_true, ble_n (show u + 3 < 15 by omega), Bool.false_or, Bool.and_eq_true] at h
        exact h.2.2.2.1
      · rw [ble_n (show u + 1 < 15 by omega), Bool.false_or, Bool.and_eq_true, ble_n (show u + 2 < 15 by omega), Bool.false_or, Bool.and_eq_true, ble_n (show u + 3 < 15 by omega), Bool.false_or, Bool.and_eq_true, ble_n (show u + 4 < 15 by omega), Bool.false_or] at h
        exact h.2.2.2.2
    have := chkT_s c hc l (r + 1) _ (u + c r) go (by omega)
    rw [Nat.add_assoc] at this
    exact this
