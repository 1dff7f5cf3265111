/-! A TILE IS WON -/
theorem bb_eq {P Q : Prop} (h : P ↔ Q) : bb P = bb Q := by rw [propext h]
def hund (x : Int32) : Int32 := (x + 99) / 100 * 100
noncomputable def due (S : zS) (f p : Nat) : Int32 := hund ((if p = S.1 12 0 then 6 else 4) * nI (jd S p false).1) + (if p = f then 300 * S.2.1 34 0 else 0)
noncomputable def got_ (S : zS) (f p : Nat) : Int32 := due S f p + (if p = f then 1000 * S.2.1 35 0 else 0)
noncomputable def val_ (S : zS) (f j : Nat) : Int32 := if j % 4 = 0 then nI (jd S (j / 4) false).2.1 else if j % 4 = 1 then nI (jd S (j / 4) false).2.2.1 else if j % 4 = 2 then nI (jd S (j / 4) false).1 else got_ S f (j / 4)
noncomputable def smX (S : zS) (f : Nat) (X : Nat → Bool) : Int32 := (((if X 0 = true then due S f 0 else 0) + (if X 1 = true then due S f 1 else 0)) + (if X 2 = true then due S f 2 else 0)) + (if X 3 = true then due S f 3 else 0)
noncomputable def wnS (S : zS) (f : Nat) (X : Nat → Bool) (z : Bool) : zS := (S.1, fun a j => if a = 30 ∧ j = S.1 14 0 then S.2.1 30 j - smX S f X else if a = 30 ∧ X j = true then S.2.1 30 j + got_ S f j else if (a = 33 ∨ a = 36) ∧ X (j / 4) = true then val_ S f j else if a = 35 ∧ j = 0 ∧ z = true then 0 else S.2.1 a j, fun a j => if a = 0 ∧ X j = true then lN (jd S j false).2.2.2 else S.2.2 a j)
noncomputable def ins (X : Nat → Bool) (p : Nat) : Nat → Bool := fun j => bb (X j = true ∨ j = p)
theorem ins_p (X : Nat → Bool) (p : Nat) : ins X p p = true := bb_t (Or.inr rfl)
theorem ins_n (X : Nat → Bool) {p j : Nat} (h : ¬ j = p) : ins X p j = X j := by
  unfold ins
  cases q : X j
  · exact bb_f (fun z => by rcases z with z | z; cases z; exact h z)
  · exact bb_t (Or.inl rfl)
theorem smX_ins (S : zS) (f : Nat) {X : Nat → Bool} {p : Nat} (hp : p < 4) (hX : X p = false) : smX S f (ins X p) = smX S f X + due S f p := by
  unfold smX
  rcases (show p = 0 ∨ p = 1 ∨ p = 2 ∨ p = 3 by omega) with e | e | e | e <;> subst e
  · rw [ins_p, ins_n X (show ¬ 1 = 0 by omega), ins_n X (show ¬ 2 = 0 by omega), ins_n X (show ¬ 3 = 0 by omega), hX, if_pos rfl, if_neg (by decide : ¬ false = true), Int32.zero_add]
    ac_rfl
  · rw [ins_p, ins_n X (show ¬ 0 = 1 by omega), ins_n X (show ¬ 2 = 1 by omega), ins_n X (show ¬ 3 = 1 by omega), hX, if_pos rfl, if_neg (by decide : ¬ false = true), Int32.add_zero]
    ac_rfl
  · rw [ins_p, ins_n X (show ¬ 0 = 2 by omega), ins_n X (show ¬ 1 = 2 by omega), ins_n X (show ¬ 3 = 2 by omega), hX, if_pos rfl, if_neg (by decide : ¬ false = true), Int32.add_zero]
    ac_rfl
  · rw [ins_p, ins_n X (show ¬ 0 = 3 by omega), ins_n X (show ¬ 1 = 3 by omega), ins_n X (show ¬ 2 = 3 by omega), hX, if_pos rfl, if_neg (by decide : ¬ false = true), Int32.add_zero]
theorem wn_s {S U : zS} {f p : Nat} {X : Nat → Bool} {z : Bool} (hp : p < 4) (hn : ¬ p = S.1 14 0) (hX : X p = false) (hw : X (S.1 14 0) = false) (h1 : U.1 = S.1) (h2 : ∀ a j, U.2.1 a j = if a = 30 ∧ j = S.1 14 0 then S.2.1 30 (S.1 14 0) - smX S f X - due S f p else if a = 30 ∧ j = p then S.2.1 30 p + got_ S f p else if (a = 33 ∨ a = 36) ∧ j / 4 = p then val_ S f j else (wnS S f X z).2.1 a j) (h3 : ∀ a j, U.2.2 a j = if a = 0 ∧ j = p then lN (jd S p false).2.2.2 else (wnS S f X z).2.2 a j) : U = wnS S f (ins X p) z := by
  refine Prod.ext h1 (Prod.ext ?_ ?_)
  · funext a j
    rw [h2]
    show _ = if a = 30 ∧ j = S.1 14 0 then S.2.1 30 j - smX S f (ins X p) else if a = 30 ∧ ins X p j = true then S.2.1 30 j + got_ S f j else if (a = 33 ∨ a = 36) ∧ ins X p (j / 4) = true then val_ S f j else if a = 35 ∧ j = 0 ∧ z = true then 0 else S.2.1 a j
    show (if a = 30 ∧ j = S.1 14 0 then S.2.1 30 (S.1 14 0) - smX S f X - due S f p else if a = 30 ∧ j = p then S.2.1 30 p + got_ S f p else if (a = 33 ∨ a = 36) ∧ j / 4 = p then val_ S f j else if a = 30 ∧ j = S.1 14 0 then S.2.1 30 j - smX S f X else if a = 30 ∧ X j = true then S.2.1 30 j + got_ S f j else if (a = 33 ∨ a = 36) ∧ X (j / 4) = true then val_ S f j else if a = 35 ∧ j = 0 ∧ z = true then 0 else S.2.1 a j) = _
    by_cases c1 : a = 30 ∧ j = S.1 14 0
    · rw [if_pos c1, if_pos c1, smX_ins S f hp hX, pz_sub2, c1.2]
    · rw [if_neg c1, if_neg c1, if_neg c1]
      by_cases c2 : a = 30 ∧ j = p
      · rw [if_pos c2, if_pos ⟨c2.1, by rw [c2.2]; exact ins_p X p⟩, c2.2]
      · rw [if_neg c2]
        by_cases c3 : (a = 33 ∨ a = 36) ∧ j / 4 = p
        · rw [if_pos c3, if_neg (by omega), if_pos ⟨c3.1, by rw [c3.2]; exact ins_p X p⟩]
        · rw [if_neg c3]
          by_cases c4 : a = 30
          · subst c4
            rw [ins_n X (fun q => c2 ⟨rfl, q⟩)]
            simp
          · by_cases c5 : a = 33 ∨ a = 36
            · rw [ins_n X (fun q => c3 ⟨c5, q⟩)]
              simp [c4]
            · simp [c4, c5]
  · funext a j
    rw [h3]
    show (if a = 0 ∧ j = p then lN (jd S p false).2.2.2 else if a = 0 ∧ X j = true then lN (jd S j false).2.2.2 else S.2.2 a j) = if a = 0 ∧ ins X p j = true then lN (jd S j false).2.2.2 else S.2.2 a j
    by_cases c1 : a = 0 ∧ j = p
    · rw [if_pos c1, if_pos ⟨c1.1, by rw [c1.2]; exact ins_p X p⟩, c1.2]
    · rw [if_neg c1]
      by_cases c2 : a = 0
      · rw [ins_n X (fun q => c1 ⟨c2, q⟩)]
      · rw [if_neg (fun q => c2 q.1), if_neg (fun q => c2 q.1)]
theorem Wo.c {S T : zS} (H : Wo S) (h1 : T.1 = S.1) (h2 : T.2.2 1 = S.2.2 1) : Wo T := by
  obtain ⟨a, b, c⟩ := T
  have h1 : a = S.1 := h1
  subst h1
  exact ⟨H.1, H.2.1, H.2.2.1.c rfl rfl rfl rfl rfl rfl h2, H.2.2.2.1, H.2.2.2.2.1, H.2.2.2.2.2.1, H.2.2.2.2.2.2.1, H.2.2.2.2.2.2.2⟩
theorem Wh.o {S : zS} (H : Wh S) : Wo S := by
  obtain ⟨G, s, tt, rv, h21, h27, an⟩ := H
  refine ⟨G.1, G.2.1, G.2.2.2.1, h21, s, fun k hk => ?_, G.2.2.2.2.2.2.1, G.2.2.2.2.2.2.2.1⟩
  have := tt k hk
  omega
theorem wn_o {S : zS} (H : Wo S) (f : Nat) (X : Nat → Bool) (z : Bool) : Wo (wnS S f X z) := by
  refine H.c rfl ?_
  funext j
  rfl
theorem w_copy {p : Nat} {m m0 : zm} {T : zS} {K : zm → Prop} (R : Rc m T m0) (hp : p < 4) (k : ∀ m' g, Rc m' (uy (ui (ui (ui (ui T 33 (4 * p + 0) (m.1 10 0)) 33 (4 * p + 1) (m.1 10 1)) 33 (4 * p + 2) (m.1 10 2)) 33 (4 * p + 3) g) 0 p (m.2 10 4)) m0 → K m') : j_Worth_copy (13 + 5 * p + 4) 10 m K := by
  have ne : ∀ j i : Nat, ¬ (10 = 13 + 5 * p + 4 ∧ j = i) := fun j i => by omega
  refine fun m1 e1 => ?_
  have R := R.wi 33 (4 * p + 0) e1 (show 4 * p + 0 < 16 by omega) (by omega) (by show _ = 17 + 5 * ((4 * p + 0) / 4); omega) (by show _ = (4 * p + 0) % 4; omega)
  have a1 : m1.1 10 1 = m.1 10 1 := by rw [e1, pz_rI, if_neg (ne _ _)]
  have a2 : m1.1 10 2 = m.1 10 2 := by rw [e1, pz_rI, if_neg (ne _ _)]
  have l1 : m1.2 10 4 = m.2 10 4 := by rw [e1, pz_rI2]
  rw [a1]
  refine fun m2 e2 => ?_
  have R := R.wi 33 (4 * p + 1) e2 (show 4 * p + 1 < 16 by omega) (by omega) (by show _ = 17 + 5 * ((4 * p + 1) / 4); omega) (by show _ = (4 * p + 1) % 4; omega)
  have b2 : m2.1 10 2 = m.1 10 2 := by rw [e2, pz_rI, if_neg (ne _ _), a2]
  have l2 : m2.2 10 4 = m.2 10 4 := by rw [e2, pz_rI2, l1]
  rw [b2]
  refine fun m3 e3 => ?_
  have R := R.wi 33 (4 * p + 2) e3 (show 4 * p + 2 < 16 by omega) (by omega) (by show _ = 17 + 5 * ((4 * p + 2) / 4); omega) (by show _ = (4 * p + 2) % 4; omega)
  have l3 : m3.2 10 4 = m.2 10 4 := by rw [e3, pz_rI2, l2]
  refine fun m4 e4 => ?_
  have R := R.wi 33 (4 * p + 3) e4 (show 4 * p + 3 < 16 by omega) (by omega) (by show _ = 17 + 5 * ((4 * p + 3) / 4); omega) (by show _ = (4 * p + 3) % 4; omega)
  have l4 : m4.2 10 4 = m.2 10 4 := by rw [e4, pz_rI2, l3]
  rw [l4]
  refine fun m5 e5 => ?_
  have R := R.wy hp (m' := m5) (x := m.2 10 4) (by rw [e5]; congr 1; omega)
  exact k m5 _ R
/-- a winner is paid by the table -/
theorem w_payOne {p f : Nat} {X : Nat → Bool} {x3 x2 : Int32} {m m0 : zm} {S : zS} {K : zm → Prop} (J : Jg) (H : Wh S) (hp : p < 4) (e4 : S.1 10 p = 4) (hX : X p = false) (hXw : X (S.1 14 0) = false) (h3 : x3 = if p = f then 300 * S.2.1 34 0 else 0) (h2 : x2 = if p = f then 1000 * S.2.1 35 0 else 0) (R : Rc m (wnS S f X true) m0)
    (k : ∀ m11, m11.1 0 4 = nI (S.1 12 0) → (∀ (t0 : Int32) (G : zm → Prop), t0 = (if p = S.1 12 0 then 6 else 4) → (∀ m', Rc m' (wnS S f (ins X p) true) m0 → G m') → j_Table_toHundreds (t0 * (m11.1 (13 + 5 * p + 4) 2)) m11 (fun r13 m12 => (∀ y14 : Int32, y14 = (r13 + x3) → (vp_in (m12.1 0 8) 4 ∧ (∀ m16 : zm, m16 = zm_wI m12 (13 + 5 * (Int32.toNatClampNeg (m12.1 0 8))) 9 ((m12.1 (13 + 5 * (Int32.toNatClampNeg (m12.1 0 8))) 9) - y14) → (∀ m17 : zm, m17 = zm_wI m16 (13 + 5 * p) 9 ((m16.1 (13 + 5 * p) 9) + (y14 + x2)) → (∀ m18 : zm, m18 = zm_wI m17 (13 + 5 * p + 4) 3 (y14 + x2) → G m18))))))) → K m11) :
    j_Table_showHand (nI p) 0 m (fun m8 => (j_Judge_findBest m8 (fun r10 m9 => (j_Worth_copy (13 + 5 * p + 4) 10 m9 K)))) := by
  have n14 := H.n14 hp (by omega)
  have B := H.1.1
  have b14 := B.b14 0
  have hy : ¬ (jd S p false).2.2.2 = 0 := by
    have an := H.2.2.2.2.2.2 p hp
    unfold an_ at an
    rcases an with z | ⟨_, z | ⟨_, _, _, z | z | z⟩⟩
    · omega
    · exact z.2
    · omega
    · omega
    · omega
  have ej : Ej (wnS S f X true) S := fun a _ _ => rfl
  have jd1 := jd_c (p := p) (sd := false) ej
  refine J.1 (wnS S f X true) p false m m0 _ R ((wn_o H.o f X true).j hp) (fun m9 R hc => ?_)
  rw [jd1] at hc
  obtain ⟨c0, c1, c2, c4⟩ := hc hy
  refine w_copy R hp (fun m11 g R => k m11 R.g12 (fun t0 G ht0 k => ?_))
  rw [c0, c1, c2, c4] at R
  have g2 : m11.1 (13 + 5 * p + 4) 2 = nI (jd S p false).1 := by
    rw [R.g33 hp (by omega)]
    show (if 33 = 33 ∧ 4 * p + 2 = 4 * p + 3 then _ else if 33 = 33 ∧ 4 * p + 2 = 4 * p + 2 then _ else _) = _
    rw [if_neg (by omega), if_pos ⟨rfl, rfl⟩]
  unfold j_Table_toHundreds
  intro y hy14
  rw [g2, ht0] at hy14
  have ey : y = due S f p := by
    rw [hy14, h3]
    rfl
  subst ey
  rw [show m11.1 0 8 = nI (S.1 14 0) from R.g14, nI_clamp (by omega), R.g30 (by omega)]
  refine ⟨pz_in (by omega) (by omega), R.t30 (by omega) (fun m16 R => ?_)⟩
  rw [R.g30 hp]
  refine R.t30 hp (fun m17 R => R.t33 hp (i := 3) (by omega) (fun m18 R => k m18 ?_))
  have R := (((R.xi 36 (4 * p + 0) (nI (jd S p false).2.1) (fun _ h => h)).xi 36 (4 * p + 1) (nI (jd S p false).2.2.1) (fun _ h => h)).xi 36 (4 * p + 2) (nI (jd S p false).1) (fun _ h => h)).xi 36 (4 * p + 3) (got_ S f p) (fun _ h => h)
  refine Eq.mp (congrArg (fun T => Rc m18 T m0) ?_) R
  have eg : due S f p + x2 = got_ S f p := by rw [h2]; rfl
  refine wn_s hp n14 hX hXw rfl (fun a j => ?_) (fun a j => rfl)
  simp only [ui_2, uy_2, eg]
  by_cases a30 : a = 30
  · subst a30
    have e30 : (wnS S f X true).2.1 30 (S.1 14 0) = S.2.1 30 (S.1 14 0) - smX S f X := if_pos ⟨rfl, rfl⟩
    have e30p : (wnS S f X true).2.1 30 p = S.2.1 30 p := by
      show (if 30 = 30 ∧ p = S.1 14 0 then _ else if 30 = 30 ∧ X p = true then _ else if (30 = 33 ∨ 30 = 36) ∧ _ then _ else if 30 = 35 ∧ _ then _ else _) = _
      rw [if_neg (fun z => n14 z.2), if_neg (by rw [hX]; simp), if_neg (by omega), if_neg (by omega)]
    by_cases j1 : j = S.1 14 0
    · subst j1
      simp [e30, n14, Ne.symm n14, fun h : S.1 14 0 = p => n14 h.symm]
    · by_cases j2 : j = p
      · subst j2
        simp [e30p, n14]
      · simp [j1, j2]
  · by_cases a33 : a = 33
    · subst a33
      by_cases jp : j / 4 = p
      · rcases (show j = 4 * p + 0 ∨ j = 4 * p + 1 ∨ j = 4 * p + 2 ∨ j = 4 * p + 3 by omega) with e | e | e | e <;> subst e
        · simp [val_, show (4 * p) / 4 = p by omega]
        · simp [val_, show (4 * p + 1) / 4 = p by omega, show (4 * p + 1) % 4 = 1 by omega]
        · simp [val_, show (4 * p + 2) / 4 = p by omega, show (4 * p + 2) % 4 = 2 by omega]
        · simp [val_, show (4 * p + 3) / 4 = p by omega, show (4 * p + 3) % 4 = 3 by omega]
      · have n0 : ¬ j = 4 * p := by omega
        have n1 : ¬ j = 4 * p + 1 := by omega
        have n2 : ¬ j = 4 * p + 2 := by omega
        have n3 : ¬ j = 4 * p + 3 := by omega
        simp [jp, n0, n1, n2, n3]
    · by_cases a36 : a = 36
      · subst a36
        by_cases jp : j / 4 = p
        · rcases (show j = 4 * p + 0 ∨ j = 4 * p + 1 ∨ j = 4 * p + 2 ∨ j = 4 * p + 3 by omega) with e | e | e | e <;> subst e
          · simp [val_, show (4 * p) / 4 = p by omega]
          · simp [val_, show (4 * p + 1) / 4 = p by omega, show (4 * p + 1) % 4 = 1 by omega]
          · simp [val_, show (4 * p + 2) / 4 = p by omega, show (4 * p + 2) % 4 = 2 by omega]
          · simp [val_, show (4 * p + 3) / 4 = p by omega, show (4 * p + 3) % 4 = 3 by omega]
        · have n0 : ¬ j = 4 * p := by omega
          have n1 : ¬ j = 4 * p + 1 := by omega
          have n2 : ¬ j = 4 * p + 2 := by omega
          have n3 : ¬ j = 4 * p + 3 := by omega
          simp [jp, n0, n1, n2, n3]
      · simp [a30, a33, a36]
theorem wn_0 (S : zS) (f : Nat) {X : Nat → Bool} (h : ∀ j, X j = false) : wnS S f X true = ui S 35 0 0 ∧ wnS S f X false = S := by
  have e : smX S f X = 0 := by
    unfold smX
    rw [h, h, h, h, if_neg (by decide), if_neg (by decide), if_neg (by decide), if_neg (by decide)]
    rfl
  constructor
  · refine Prod.ext rfl (Prod.ext ?_ ?_)
    · funext a j
      show (if a = 30 ∧ j = S.1 14 0 then S.2.1 30 j - smX S f X else if a = 30 ∧ X j = true then S.2.1 30 j + got_ S f j else if (a = 33 ∨ a = 36) ∧ X (j / 4) = true then val_ S f j else if a = 35 ∧ j = 0 ∧ true = true then 0 else S.2.1 a j) = if a = 35 ∧ j = 0 then 0 else S.2.1 a j
      rw [e, h, h]
      by_cases q : a = 30 ∧ j = S.1 14 0
      · rw [if_pos q, if_neg (by omega), Int32.sub_zero, q.1]
      · rw [if_neg q]; simp
    · funext a j
      show (if a = 0 ∧ X j = true then _ else S.2.2 a j) = S.2.2 a j
      rw [h, if_neg (by simp)]
  · refine Prod.ext rfl (Prod.ext ?_ ?_)
    · funext a j
      show (if a = 30 ∧ j = S.1 14 0 then S.2.1 30 j - smX S f X else if a = 30 ∧ X j = true then S.2.1 30 j + got_ S f j else if (a = 33 ∨ a = 36) ∧ X (j / 4) = true then val_ S f j else if a = 35 ∧ j = 0 ∧ false = true then 0 else S.2.1 a j) = S.2.1 a j
      rw [e, h, h]
      by_cases q : a = 30 ∧ j = S.1 14 0
      · rw [if_pos q, Int32.sub_zero, q.1]
      · rw [if_neg q]; simp
    · funext a j
      show (if a = 0 ∧ X j = true then _ else S.2.2 a j) = S.2.2 a j
      rw [h, if_neg (by simp)]
theorem wn_z (S : zS) (f : Nat) (X : Nat → Bool) : ui (wnS S f X false) 35 0 0 = wnS S f X true := by
  refine Prod.ext rfl (Prod.ext ?_ rfl)
  funext a j
  show (if a = 35 ∧ j = 0 then 0 else if a = 30 ∧ j = S.1 14 0 then S.2.1 30 j - smX S f X else if a = 30 ∧ X j = true then S.2.1 30 j + got_ S f j else if (a = 33 ∨ a = 36) ∧ X (j / 4) = true then val_ S f j else if a = 35 ∧ j = 0 ∧ false = true then 0 else S.2.1 a j) = if a = 30 ∧ j = S.1 14 0 then S.2.1 30 j - smX S f X else if a = 30 ∧ X j = true then S.2.1 30 j + got_ S f j else if (a = 33 ∨ a = 36) ∧ X (j / 4) = true then val_ S f j else if a = 35 ∧ j = 0 ∧ true = true then 0 else S.2.1 a j
  by_cases q : a = 35 ∧ j = 0
  · rw [if_pos q, if_neg (by omega), if_neg (by omega), if_neg (by omega), if_pos ⟨q.1, q.2, rfl⟩]
  · rw [if_neg q]
    simp [q]
