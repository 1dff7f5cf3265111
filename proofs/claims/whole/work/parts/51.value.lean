/-! WHAT A READING IS WORTH: base, han, fu, yaku -/
abbrev zV : Type := Nat × Nat × Nat × Nat
def hn_ (y : Nat) (c : Bool) : Nat := if y < 15 ∨ y = 24 then (if y = 1 then 2 else 1) else if y ≤ 17 then (if c then 2 else 1) else if y = 18 ∨ y = 28 then (if c then 3 else 2) else if y = 29 then (if c then 6 else 5) else if y = 27 then 3 else 2
def hs_ (f : Nat → Bool) (c : Bool) : Nat → Nat
  | 0 => 0
  | n + 1 => hs_ f c n + (if f n = true then hn_ n c else 0)
def bs_ (han fu : Nat) : Nat := if 13 ≤ han then 8000 else if 11 ≤ han then 6000 else if 8 ≤ han then 4000 else if 6 ≤ han then 3000 else if 5 ≤ han then 2000 else if 2000 < fu * 2 ^ (2 + han) then 2000 else fu * 2 ^ (2 + han)
def lim_ (f : Nat → Bool) : Prop := ∃ y, 30 ≤ y ∧ y < 42 ∧ f y = true
noncomputable def vy (f : Nat → Bool) (c : Bool) (dr fu : Nat) : zV := if bb (lim_ f) = true then (8000, 13, fu, mk_ (fun y => f y && decide (30 ≤ y)) 42) else (bs_ (dr + hs_ f c 30) fu, dr + hs_ f c 30, fu, mk_ f 42)
/-- v is below or at w -/
def vle (v w : zV) : Prop := v.1 < w.1 ∨ (v.1 = w.1 ∧ (v.2.1 < w.2.1 ∨ (v.2.1 = w.2.1 ∧ (v.2.2.1 < w.2.2.1 ∨ (v.2.2.1 = w.2.2.1 ∧ v.2.2.2 ≤ w.2.2.2)))))
theorem vle.rf (v : zV) : vle v v := Or.inr ⟨rfl, Or.inr ⟨rfl, Or.inr ⟨rfl, Nat.le_refl _⟩⟩⟩
theorem vle.tr {u v w : zV} (h1 : vle u v) (h2 : vle v w) : vle u w := by unfold vle at *; omega
theorem vle.or (v w : zV) : vle v w ∨ vle w v := by unfold vle; omega
theorem vle.an {v w : zV} (h1 : vle v w) (h2 : vle w v) : v = w := by
  obtain ⟨a, b, c, d⟩ := v
  obtain ⟨a', b', c', d'⟩ := w
  unfold vle at *
  simp only at h1 h2
  have e1 : a = a' := by omega
  have e2 : b = b' := by omega
  have e3 : c = c' := by omega
  have e4 : d = d' := by omega
  rw [e1, e2, e3, e4]
/-- sets: form (0 run, 1 triplet, 2 quad), kind, whether closed -/
def tg_ (sd : Bool) (a : Option Nat) (O : List (Nat × Nat)) : List (Nat × Nat × Bool) := O.mapIdx (fun j x => (x.1, x.2, sd || !(a == some j)))
def mg_ (d : Nat → Nat) : Nat → List (Nat × Nat × Bool)
  | 0 => []
  | n + 1 => mg_ d n ++ [(if d n % 4 = 0 then 0 else if d n % 4 = 1 then 1 else 2, d n / 4, decide (d n % 4 = 3))]
def nrun (L : List (Nat × Nat × Bool)) (k : Nat) : Nat := L.countP (fun x => x.1 == 0 && x.2.1 == k)
def ntri (L : List (Nat × Nat × Bool)) (k : Nat) : Nat := L.countP (fun x => !(x.1 == 0) && x.2.1 == k)
def nR (L : List (Nat × Nat × Bool)) : Nat := L.countP (fun x => x.1 == 0)
def nC (L : List (Nat × Nat × Bool)) : Nat := L.countP (fun x => !(x.1 == 0) && x.2.2)
def nQ (L : List (Nat × Nat × Bool)) : Nat := L.countP (fun x => x.1 == 2)
def nD (L : List (Nat × Nat × Bool)) : Nat := L.countP (fun x => !(x.1 == 0) && decide (31 ≤ x.2.1))
def nW (L : List (Nat × Nat × Bool)) : Nat := L.countP (fun x => !(x.1 == 0) && decide (27 ≤ x.2.1) && decide (x.2.1 ≤ 30))
def nE (L : List (Nat × Nat × Bool)) : Nat := L.countP (fun x => !(out_ x.2.1 || (x.1 == 0 && x.2.1 % 9 == 6)))
def nH (L : List (Nat × Nat × Bool)) : Nat := L.countP (fun x => decide (27 ≤ x.2.1))
def tw_ (L : List (Nat × Nat × Bool)) : Nat → Nat
  | 0 => 0
  | n + 1 => tw_ L n + nrun L n / 2
def fus (L : List (Nat × Nat × Bool)) : Nat := (L.map (fun x => if x.1 = 0 then 0 else (if x.2.2 then 4 else 2) * (if out_ x.2.1 then 2 else 1) * (if x.1 = 2 then 4 else 1))).sum
/-- what stands around a hand: closed, by draw, seat wind, round wind, last tile -/
abbrev zE : Type := Bool × Bool × Nat × Nat × Nat
/-- the last tile ends a run of two sides -/
def two_ (last : Nat) : Option (Nat × Nat) → Bool
  | none => false
  | some x => (last == x.2 && decide (x.2 % 9 < 6)) || (last == x.2 + 2 && decide (0 < x.2 % 9))
def nar_ (last : Nat) : Option (Nat × Nat) → Nat
  | none => 2
  | some x => if x.1 = 0 ∧ (last = x.2 + 1 ∨ (last = x.2 + 2 ∧ x.2 % 9 = 0) ∨ (last = x.2 ∧ x.2 % 9 = 6)) then 2 else 0
noncomputable def sb_ (E : zE) (pr : Nat) (L : List (Nat × Nat × Bool)) (la : Option (Nat × Nat)) : Nat → Bool
  | 8 => E.1 && nR L == 4 && decide (pr < 31) && !(pr == E.2.2.1) && !(pr == E.2.2.2.1) && two_ E.2.2.2.2 la
  | 9 => E.1 && tw_ L 25 == 1
  | 27 => E.1 && tw_ L 25 == 2
  | 10 => decide (0 < ntri L E.2.2.1)
  | 11 => decide (0 < ntri L E.2.2.2.1)
  | 12 => decide (0 < ntri L 31)
  | 13 => decide (0 < ntri L 32)
  | 14 => decide (0 < ntri L 33)
  | 15 => bb (∃ r, r < 7 ∧ 0 < nrun L r ∧ 0 < nrun L (9 + r) ∧ 0 < nrun L (18 + r))
  | 16 => bb (∃ s, s < 3 ∧ 0 < nrun L (9 * s) ∧ 0 < nrun L (9 * s + 3) ∧ 0 < nrun L (9 * s + 6))
  | 17 => out_ pr && nE L == 0 && decide (0 < nR L) && (decide (27 ≤ pr) || decide (0 < nH L))
  | 18 => out_ pr && nE L == 0 && decide (0 < nR L) && !(decide (27 ≤ pr) || decide (0 < nH L))
  | 19 => nR L == 0
  | 20 => nC L == 3
  | 21 => nQ L == 3
  | 22 => bb (∃ r, r < 9 ∧ 0 < ntri L r ∧ 0 < ntri L (9 + r) ∧ 0 < ntri L (18 + r))
  | 23 => nD L == 2 && decide (31 ≤ pr)
  | 32 => nC L == 4
  | 33 => nQ L == 4
  | 34 => nD L == 3
  | 35 => nW L == 3 && decide (27 ≤ pr) && decide (pr ≤ 30)
  | 36 => nW L == 4
  | _ => false
def fu_ (E : zE) (pr : Nat) (L : List (Nat × Nat × Bool)) (la : Option (Nat × Nat)) : Nat :=
  let f := 20 + (if E.1 && !E.2.1 then 10 else 0) + (if E.2.1 then 2 else 0) + ((if 31 ≤ pr then 2 else 0) + (if pr = E.2.2.1 then 2 else 0) + (if pr = E.2.2.2.1 then 2 else 0)) + nar_ E.2.2.2.2 la + fus L
  if (f + 9) / 10 * 10 = 20 ∧ E.1 = false then 30 else (f + 9) / 10 * 10
/-- of all tiles -/
def su_ (al : Nat → Nat) (s : Nat) : Bool := decide (0 < csum (fun j => al (9 * s + j)) 9)
noncomputable def tb_ (al : Nat → Nat) (w : Nat) : Nat → Bool
  | 24 => bb (∀ k, k < 34 → out_ k = true → al k = 0)
  | 25 => bb (∀ k, k < 34 → out_ k = false → al k = 0)
  | 28 => bb ((∃ s, s < 3 ∧ su_ al s = true ∧ ∀ r, r < 3 → su_ al r = true → r = s) ∧ ∃ k, 27 ≤ k ∧ k < 34 ∧ 0 < al k)
  | 29 => bb ((∃ s, s < 3 ∧ su_ al s = true ∧ ∀ r, r < 3 → su_ al r = true → r = s) ∧ ∀ k, 27 ≤ k → k < 34 → al k = 0)
  | 31 => bb (w = 0 ∧ (∃ s, s < 3 ∧ (∀ r, r < 3 → su_ al r = true → r = s) ∧ ∀ r, r < 9 → (if r = 0 ∨ r = 8 then 3 else 1) ≤ al (9 * s + r)) ∧ ∀ k, 27 ≤ k → k < 34 → al k = 0)
  | 37 => bb (∀ k, k < 27 → al k = 0)
  | 38 => bb (∀ k, k < 34 → (out_ k = false ∨ 27 ≤ k) → al k = 0)
  | 39 => bb (∀ k, k < 34 → ¬ (k = 19 ∨ k = 20 ∨ k = 21 ∨ k = 23 ∨ k = 25 ∨ k = 32) → al k = 0)
  | _ => false
def tlt (t : Nat → Nat) : Nat → List (Nat × Nat)
  | 0 => []
  | n + 1 => tlt t n ++ (if t n = 1 then [(1, n)] else [])
/-- the own sets of a way: triplets t, the rest in runs -/
def ow_ (e : Nat → Nat) (pr : Nat) (t : Nat → Nat) : List (Nat × Nat) := tlt t 34 ++ rl (fun j => dn e pr 2 j - 3 * t j) 34 0 0 0
/-- whether the last tile lies in a set -/
def ins_ (last : Nat) (x : Nat × Nat) : Prop := if x.1 = 0 then x.2 ≤ last ∧ last ≤ x.2 + 2 else last = x.2
/-- a reading in sets -/
def way_ (e : Nat → Nat) (pr : Nat) (t : Nat → Nat) : Prop := pr < 34 ∧ 2 ≤ e pr ∧ (∀ j, 3 * t j ≤ dn e pr 2 j) ∧ rs (fun j => dn e pr 2 j - 3 * t j) 34 0 0 0 = true
def at_ (last pr : Nat) (O : List (Nat × Nat)) : Option Nat → Prop
  | none => pr = last
  | some i => ∃ x, O[i]? = some x ∧ ins_ last x
def la_ (O : List (Nat × Nat)) (a : Option Nat) : Option (Nat × Nat) := a.bind (fun i => O[i]?)
/-- its value: hp what happened, dr dora, tl what all tiles give -/
noncomputable def vw_ (E : zE) (hp tl_ : Nat → Bool) (dr : Nat) (d : Nat → Nat) (w : Nat) (O : List (Nat × Nat)) (pr : Nat) (a : Option Nat) : zV :=
  let L := tg_ E.2.1 a O ++ mg_ d w
  let f := fun y => hp y || tl_ y || sb_ E pr L (la_ O a) y
  vy f E.1 dr (if f 8 = true ∧ bb (lim_ f) = false ∧ E.2.1 = true then 20 else fu_ E pr L (la_ O a))
/-- the values of all readings -/
def Rd_ (E : zE) (hp : Nat → Bool) (dr : Nat) (e al d : Nat → Nat) (w : Nat) (v : zV) : Prop := ¬ v.2.2.2 = 0 ∧
  ((w = 0 ∧ (∀ k, k < 34 → (decide (0 < e k)) = out_ k) ∧ v = vy (fun y => hp y || y == 30) E.1 dr 30) ∨
   (w = 0 ∧ n2_ e 34 = 7 ∧ v = vy (fun y => hp y || tb_ al w y || y == 26) E.1 dr 25) ∨
   ∃ pr t a, way_ e pr t ∧ at_ E.2.2.2.2 pr (ow_ e pr t) a ∧ v = vw_ E hp (tb_ al w) dr d w (ow_ e pr t) pr a)
/-- the greatest of some values, or nothing -/
def Gr (P : zV → Prop) (v : zV) : Prop := (P v ∧ ∀ u, P u → vle u v) ∨ ((∀ u, ¬ P u) ∧ v = (0, 0, 0, 0))
theorem Gr.un {P : zV → Prop} {v u : zV} (h : Gr P v) (h2 : Gr P u) : v = u := by
  rcases h with ⟨a, b⟩ | ⟨a, b⟩
  · rcases h2 with ⟨c, d⟩ | ⟨c, d⟩
    · exact vle.an (d _ a) (b _ c)
    · exact absurd a (c _)
  · rcases h2 with ⟨c, d⟩ | ⟨c, d⟩
    · exact absurd c (a _)
    · rw [b, d]
/-! of a state -/
def lft (S : zS) : Nat := 122 - S.1 17 0 - S.1 20 0
/-- closed: every meld is a closed quad -/
def cls (S : zS) (p : Nat) : Prop := ∀ i, i < S.1 2 p → mf S p i % 4 = 3
def til (S : zS) : Nat := S.1 21 0 - 1
def ec (S : zS) (p : Nat) (sd : Bool) : Nat → Nat := fun k => cf S p k + (if sd = false ∧ k = til S then 1 else 0)
def ac (S : zS) (p : Nat) (sd : Bool) : Nat → Nat := fun k => own_ (cf S p) (mf S p) (S.1 2 p) k + (if sd = false ∧ k = til S then 1 else 0)
noncomputable def hb_ (S : zS) (p : Nat) (sd : Bool) : Nat → Bool
  | 0 => S.1 6 p == 1
  | 1 => S.1 6 p == 2
  | 2 => S.1 7 p == 1
  | 3 => sd && bb (cls S p)
  | 4 => sd && S.1 18 0 == 1
  | 5 => !sd && S.1 15 0 == 1
  | 6 => sd && S.1 18 0 == 0 && lft S == 0
  | 7 => !sd && S.1 15 0 == 0 && lft S == 0
  | 40 => sd && S.1 4 p == 0 && S.1 16 0 == 0 && p == S.1 12 0
  | 41 => sd && S.1 4 p == 0 && S.1 16 0 == 0 && !(p == S.1 12 0)
  | _ => false
def nxt (k : Nat) : Nat := if k < 27 then (if k % 9 = 8 then k - 8 else k + 1) else if k < 31 then (if k = 30 then 27 else k + 1) else if k = 33 then 31 else k + 1
def dor (S : zS) (p : Nat) (al : Nat → Nat) : Nat → Nat
  | 0 => 0
  | n + 1 => dor S p al n + al (nxt (S.1 0 (131 - 2 * n))) + (if S.1 6 p = 0 then 0 else al (nxt (S.1 0 (130 - 2 * n))))
noncomputable def en_ (S : zS) (p : Nat) (sd : Bool) : zE := (bb (cls S p), sd, 27 + (p + 4 - S.1 12 0) % 4, 27 + S.1 13 0, til S)
def Rdv (S : zS) (p : Nat) (sd : Bool) : zV → Prop := Rd_ (en_ S p sd) (hb_ S p sd) (dor S p (ac S p sd) (S.1 17 0 + 1)) (ec S p sd) (ac S p sd) (mf S p) (S.1 2 p)
noncomputable def jd (S : zS) (p : Nat) (sd : Bool) : zV := Classical.epsilon (Gr (Rdv S p sd))
theorem jd_eq {S : zS} {p : Nat} {sd : Bool} {v : zV} (h : Gr (Rdv S p sd) v) : jd S p sd = v := by
  unfold jd
  exact Gr.un (Classical.epsilon_spec (p := Gr (Rdv S p sd)) ⟨v, h⟩) h
