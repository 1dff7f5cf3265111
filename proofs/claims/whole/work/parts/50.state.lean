/-! THE STATE that both sides hold: small numbers S, ints I, yaku Y.
S 0 j wall; 1 (34p+k) concealed; 2 p melds; 3 (4p+i) meld (4 kind + form); 4 p discards; 5 (100p+i) discard; 6 p riichi; 7 p fresh; 8 p missed; 9 p options; 10 p answer;
11: 0 phase, 1 dealer, 2 round, 3 who, 4 tile + 1 (0: none), 5 replacement, 6 robbing, 7 stick due, 8 called, 9 place, 10 quads
I 0 p points; 1 0 the generator; 2 p low; 3 (4p+i) han, fu, base, got; 4 0 honba, 4 1 sticks -/
abbrev zS : Type := (Nat → Nat → Nat) × (Nat → Nat → Int32) × (Nat → Int64)
def cf (S : zS) (p : Nat) : Nat → Nat := fun k => if k < 34 then S.1 1 (34 * p + k) else 0
def mf (S : zS) (p : Nat) : Nat → Nat := fun i => S.1 3 (4 * p + i)
def rf_ (S : zS) (p : Nat) : Nat → Nat := fun i => S.1 5 (100 * p + i)
noncomputable def df (S : zS) (p : Nat) : Nat → Bool := fun k => bb (∃ i, i < S.1 4 p ∧ rf_ S p i = k)
def tv (S : zS) : Int32 := if S.1 11 4 = 0 then -1 else nI (S.1 11 4 - 1)
def shown (S : zS) : Prop := S.1 11 0 = 1 ∨ S.1 11 0 = 2 ∨ S.1 11 0 = 3
/-- the table holds it -/
def RcA (m : zm) (S : zS) : Prop := (∀ j, j < 136 → m.1 12 j = nI (S.1 0 j)) ∧ m.1 11 1 = S.2.1 1 0 ∧ m.1 0 3 = nI (S.1 11 0) ∧ m.1 0 4 = nI (S.1 11 1) ∧ m.1 0 5 = nI (S.1 11 2) ∧ m.1 0 6 = S.2.1 4 0 ∧ m.1 0 7 = S.2.1 4 1 ∧ ∀ p, p < 4 → m.1 (13 + 5 * p) 9 = S.2.1 0 p ∧ m.2 (13 + 5 * p + 4) 4 = S.2.2 p ∧ (¬ S.2.2 p = 0 → ∀ i, i < 4 → m.1 (13 + 5 * p + 4) i = S.2.1 3 (4 * p + i))
def RcH (m : zm) (S : zS) : Prop := (∀ p, p < 4 → pP m (13 + 5 * p) (cf S p) (mf S p) (S.1 2 p) ∧ m.1 (13 + 5 * p) 4 = nI (S.1 4 p) ∧ (∀ i, i < S.1 4 p → m.1 (13 + 5 * p + 3) i = nI (rf_ S p i)) ∧ m.2 (13 + 5 * p) 5 = lN (mk_ (df S p) 34) ∧ m.1 (13 + 5 * p) 8 = nI (S.1 8 p)) ∧ m.1 11 2 = nI (S.1 11 9) ∧ m.1 11 3 = nI (S.1 11 10)
def RcT (m : zm) (S : zS) : Prop := (∀ p, p < 4 → m.1 (13 + 5 * p) 6 = nI (S.1 6 p) ∧ m.1 (13 + 5 * p) 7 = nI (S.1 7 p)) ∧ m.1 0 8 = nI (S.1 11 3) ∧ m.1 0 9 = tv S ∧ m.1 0 13 = nI (S.1 11 8)
def RcC (m : zm) (S : zS) : Prop := (∀ p, p < 4 → m.1 (13 + 5 * p) 10 = nI (S.1 9 p) ∧ m.1 (13 + 5 * p) 11 = nI (S.1 10 p) ∧ (S.1 10 p = 1 → m.1 (13 + 5 * p) 12 = S.2.1 2 p)) ∧ m.1 0 11 = nI (S.1 11 6) ∧ m.1 0 12 = nI (S.1 11 7)
def Rc (m : zm) (S : zS) : Prop := RcA m S ∧ (shown S → RcH m S) ∧ (S.1 11 0 = 1 ∨ S.1 11 0 = 2 → RcT m S) ∧ (S.1 11 0 = 1 → m.1 0 10 = nI (S.1 11 5)) ∧ (S.1 11 0 = 2 → RcC m S)
/-- the reference holds it -/
def RrA (m : zm) (S : zS) : Prop := (∀ j, j < 136 → m.1 34 j = nI (S.1 0 j)) ∧ m.1 33 1 = S.2.1 1 0 ∧ m.1 33 3 = nI (S.1 11 0) ∧ m.1 33 5 = nI (S.1 11 1) ∧ m.1 33 6 = nI (S.1 11 2) ∧ m.1 33 7 = S.2.1 4 0 ∧ m.1 33 8 = S.2.1 4 1 ∧ ∀ p, p < 4 → m.1 35 p = S.2.1 0 p ∧ (S.2.2 p = 0 → m.1 48 (4 * p) = -1) ∧ (¬ S.2.2 p = 0 → m.2 49 p = S.2.2 p ∧ ¬ S.2.1 3 (4 * p) < 0 ∧ ∀ i, i < 4 → m.1 48 (4 * p + i) = S.2.1 3 (4 * p + i))
def RrH (m : zm) (S : zS) : Prop := (∀ p, p < 4 → rP m p (cf S p) (mf S p) (S.1 2 p) ∧ rV m p (S.1 4 p) (rf_ S p) ∧ m.1 44 p = nI (S.1 8 p)) ∧ m.1 33 2 = nI (S.1 11 9) ∧ m.1 33 16 = nI (S.1 11 10)
def RrT (m : zm) (S : zS) : Prop := (∀ p, p < 4 → m.1 42 p = nI (S.1 6 p) ∧ m.1 43 p = nI (S.1 7 p)) ∧ m.1 33 4 = nI (S.1 11 3) ∧ m.1 33 17 = nI (S.1 11 8)
def RrC (m : zm) (S : zS) : Prop := (∀ p, p < 4 → m.1 45 p = nI (S.1 9 p) ∧ m.1 46 p = nI (S.1 10 p) ∧ (S.1 10 p = 1 → m.1 47 p = S.2.1 2 p)) ∧ m.1 33 24 = tv S ∧ m.1 33 25 = nI (S.1 11 6) ∧ m.1 33 23 = (if S.1 11 7 = 1 then nI (S.1 11 3) else -1)
def Rr (m : zm) (S : zS) : Prop := RrA m S ∧ (shown S → RrH m S) ∧ (S.1 11 0 = 1 ∨ S.1 11 0 = 2 → RrT m S) ∧ (S.1 11 0 = 1 → m.1 33 18 = tv S ∧ m.1 33 19 = nI (S.1 11 5) ∧ m.1 33 23 = -1) ∧ (S.1 11 0 = 2 → RrC m S)
/-- what is so of every state -/
def WfA (S : zS) : Prop := (∀ j, j < 136 → S.1 0 j < 34) ∧ S.1 11 0 ≤ 4 ∧ S.1 11 1 < 4 ∧ S.1 11 2 < 2
def WfH (S : zS) : Prop := (∀ p, p < 4 → (∀ k, S.1 1 (34 * p + k) ≤ 4) ∧ (3 * S.1 2 p + csum (cf S p) 34 = 13 ∨ 3 * S.1 2 p + csum (cf S p) 34 = 14) ∧ S.1 2 p ≤ 4 ∧ (∀ i, i < S.1 2 p → mf S p i < 136) ∧ S.1 4 p < 96 ∧ (∀ i, i < S.1 4 p → rf_ S p i < 34) ∧ S.1 8 p ≤ 1) ∧ 52 ≤ S.1 11 9 ∧ S.1 11 10 ≤ 4 ∧ S.1 11 9 + S.1 11 10 ≤ 122
def WfT (S : zS) : Prop := (∀ p, p < 4 → S.1 6 p ≤ 2 ∧ S.1 7 p ≤ 1) ∧ S.1 11 3 < 4 ∧ S.1 11 4 ≤ 34 ∧ S.1 11 8 ≤ 1
def WfC (S : zS) : Prop := (∀ p, p < 4 → S.1 9 p < 32 ∧ S.1 10 p ≤ 4) ∧ S.1 11 6 ≤ 1 ∧ S.1 11 7 ≤ 1 ∧ ¬ S.1 11 4 = 0
def Wf (S : zS) : Prop := WfA S ∧ (shown S → WfH S) ∧ (S.1 11 0 = 1 ∨ S.1 11 0 = 2 → WfT S) ∧ (S.1 11 0 = 1 → S.1 11 5 ≤ 1) ∧ (S.1 11 0 = 2 → WfC S)
/-- scratch of the table: judge, splitter -/
def eqG (m m' : zm) : Prop := ∀ q j, ¬ (2 ≤ q ∧ q ≤ 10) → m'.1 q j = m.1 q j ∧ m'.2 q j = m.2 q j
/-- the other side's cells stay -/
def kpR (m m' : zm) : Prop := ∀ q j, 33 ≤ q → m'.1 q j = m.1 q j ∧ m'.2 q j = m.2 q j
def kpC (m m' : zm) : Prop := ∀ q j, q < 33 → m'.1 q j = m.1 q j ∧ m'.2 q j = m.2 q j
theorem eqF.kpC {m m' : zm} (h : eqF m m') : kpC m m' := fun q j hq => h q j (by rintro (z | z) <;> omega)
theorem cf_5 {S : zS} (h : WfH S) {p : Nat} (hp : p < 4) : ∀ j, cf S p j < 5 := fun j => by
  unfold cf
  split
  · have := (h.1 p hp).1 j; omega
  · omega
theorem pA.keep {m m' : zm} {q : Nat} {c : Nat → Nat} (h : pA m q c) (e : ∀ j, m'.1 q j = m.1 q j) : pA m' q c := fun k hk => by rw [e]; exact h k hk
theorem Rc.keep {m m' : zm} {S : zS} (h : Rc m S) (e : ∀ q j, q < 33 → ¬ (2 ≤ q ∧ q ≤ 10) → m'.1 q j = m.1 q j ∧ m'.2 q j = m.2 q j) : Rc m' S := by
  obtain ⟨⟨a1, a2, a3, a4, a5, a6, a7, a8⟩, hH, hT, h10, hC⟩ := h
  refine ⟨⟨fun j hj => ?_, ?_, ?_, ?_, ?_, ?_, ?_, fun p hp => ?_⟩, fun z => ?_, fun z => ?_, fun z => ?_, fun z => ?_⟩
  · rw [(e 12 j (by omega) (by omega)).1]; exact a1 j hj
  · rw [(e 11 1 (by omega) (by omega)).1]; exact a2
  · rw [(e 0 3 (by omega) (by omega)).1]; exact a3
  · rw [(e 0 4 (by omega) (by omega)).1]; exact a4
  · rw [(e 0 5 (by omega) (by omega)).1]; exact a5
  · rw [(e 0 6 (by omega) (by omega)).1]; exact a6
  · rw [(e 0 7 (by omega) (by omega)).1]; exact a7
  · obtain ⟨b1, b2, b3⟩ := a8 p hp
    refine ⟨by rw [(e _ 9 (by omega) (by omega)).1]; exact b1, by rw [(e _ 4 (by omega) (by omega)).2]; exact b2, fun hy i hi => by rw [(e _ i (by omega) (by omega)).1]; exact b3 hy i hi⟩
  · obtain ⟨b1, b2, b3⟩ := hH z
    refine ⟨fun p hp => ?_, by rw [(e 11 2 (by omega) (by omega)).1]; exact b2, by rw [(e 11 3 (by omega) (by omega)).1]; exact b3⟩
    obtain ⟨⟨c1, c2, c3, c4⟩, c5, c6, c7, c8⟩ := b1 p hp
    exact ⟨⟨c1.keep (fun j => (e _ j (by omega) (by omega)).1), by rw [(e _ 2 (by omega) (by omega)).1]; exact c2, c3, fun i hi => by rw [(e _ i (by omega) (by omega)).1]; exact c4 i hi⟩, by rw [(e _ 4 (by omega) (by omega)).1]; exact c5, fun i hi => by rw [(e _ i (by omega) (by omega)).1]; exact c6 i hi, by rw [(e _ 5 (by omega) (by omega)).2]; exact c7, by rw [(e _ 8 (by omega) (by omega)).1]; exact c8⟩
  · obtain ⟨b1, b2, b3, b4⟩ := hT z
    refine ⟨fun p hp => ?_, by rw [(e 0 8 (by omega) (by omega)).1]; exact b2, by rw [(e 0 9 (by omega) (by omega)).1]; exact b3, by rw [(e 0 13 (by omega) (by omega)).1]; exact b4⟩
    rw [(e _ 6 (by omega) (by omega)).1, (e _ 7 (by omega) (by omega)).1]
    exact b1 p hp
  · rw [(e 0 10 (by omega) (by omega)).1]; exact h10 z
  · obtain ⟨b1, b2, b3⟩ := hC z
    refine ⟨fun p hp => ?_, by rw [(e 0 11 (by omega) (by omega)).1]; exact b2, by rw [(e 0 12 (by omega) (by omega)).1]; exact b3⟩
    rw [(e _ 10 (by omega) (by omega)).1, (e _ 11 (by omega) (by omega)).1, (e _ 12 (by omega) (by omega)).1]
    exact b1 p hp
theorem Rr.keep {m m' : zm} {S : zS} (h : Rr m S) (e : ∀ q j, 33 ≤ q → ¬ scr q j → m'.1 q j = m.1 q j ∧ m'.2 q j = m.2 q j) : Rr m' S := by
  have n33 : ∀ j, j < 32 → ¬ scr 33 j := fun j hj => by rintro (z | z) <;> omega
  have lo : ∀ q j, 33 < q → q < 50 → ¬ scr q j := fun q j h1 h2 => by rintro (z | z) <;> omega
  have f33 : ∀ j, j < 32 → m'.1 33 j = m.1 33 j := fun j hj => (e 33 j (by omega) (n33 j hj)).1
  have g : ∀ q j, 33 < q → q < 50 → m'.1 q j = m.1 q j := fun q j h1 h2 => (e q j (by omega) (lo q j h1 h2)).1
  have g2 : ∀ q j, 33 < q → q < 50 → m'.2 q j = m.2 q j := fun q j h1 h2 => (e q j (by omega) (lo q j h1 h2)).2
  obtain ⟨⟨a1, a2, a3, a4, a5, a6, a7, a8⟩, hH, hT, h10, hC⟩ := h
  refine ⟨⟨fun j hj => by rw [g 34 j (by omega) (by omega)]; exact a1 j hj, by rw [f33 1 (by omega)]; exact a2, by rw [f33 3 (by omega)]; exact a3, by rw [f33 5 (by omega)]; exact a4, by rw [f33 6 (by omega)]; exact a5, by rw [f33 7 (by omega)]; exact a6, by rw [f33 8 (by omega)]; exact a7, fun p hp => ?_⟩, fun z => ?_, fun z => ?_, fun z => ?_, fun z => ?_⟩
  · obtain ⟨b1, b2, b3⟩ := a8 p hp
    refine ⟨by rw [g 35 p (by omega) (by omega)]; exact b1, fun hy => by rw [g 48 _ (by omega) (by omega)]; exact b2 hy, fun hy => ?_⟩
    obtain ⟨c1, c2, c3⟩ := b3 hy
    exact ⟨by rw [g2 49 p (by omega) (by omega)]; exact c1, c2, fun i hi => by rw [g 48 _ (by omega) (by omega)]; exact c3 i hi⟩
  · obtain ⟨b1, b2, b3⟩ := hH z
    refine ⟨fun p hp => ?_, by rw [f33 2 (by omega)]; exact b2, by rw [f33 16 (by omega)]; exact b3⟩
    obtain ⟨⟨c1, c2, c3, c4⟩, ⟨c5, c6, c7⟩, c8⟩ := b1 p hp
    exact ⟨⟨fun k hk => by rw [g 36 _ (by omega) (by omega)]; exact c1 k hk, by rw [g 37 _ (by omega) (by omega)]; exact c2, c3, fun i hi => by rw [g 38 _ (by omega) (by omega), g 39 _ (by omega) (by omega)]; exact c4 i hi⟩, ⟨by rw [g 40 _ (by omega) (by omega)]; exact c5, c6, fun i hi => by rw [g 41 _ (by omega) (by omega)]; exact c7 i hi⟩, by rw [g 44 _ (by omega) (by omega)]; exact c8⟩
  · obtain ⟨b1, b2, b3⟩ := hT z
    exact ⟨fun p hp => by rw [g 42 _ (by omega) (by omega), g 43 _ (by omega) (by omega)]; exact b1 p hp, by rw [f33 4 (by omega)]; exact b2, by rw [f33 17 (by omega)]; exact b3⟩
  · rw [f33 18 (by omega), f33 19 (by omega), f33 23 (by omega)]; exact h10 z
  · obtain ⟨b1, b2, b3, b4⟩ := hC z
    exact ⟨fun p hp => by rw [g 45 _ (by omega) (by omega), g 46 _ (by omega) (by omega), g 47 _ (by omega) (by omega)]; exact b1 p hp, by rw [f33 24 (by omega)]; exact b2, by rw [f33 25 (by omega)]; exact b3, by rw [f33 23 (by omega)]; exact b4⟩
/-- both sides hold one good state -/
def Inv (m : zm) : Prop := ∃ S, Rc m S ∧ Rr m S ∧ Wf S
theorem Inv.keep {m m' : zm} (h : Inv m) (e : eqF m m') : Inv m' := by
  obtain ⟨S, h1, h2, h3⟩ := h
  exact ⟨S, h1.keep (fun q j hq _ => e q j (by rintro (z | z) <;> omega)), h2.keep (fun q j _ hs => e q j hs), h3⟩
