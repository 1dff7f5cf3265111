/-! ALL WHO WIN BY A TILE -/
noncomputable def Xd (S : zS) (d : Nat) : Nat → Bool := fun j => bb (j < 4 ∧ S.1 10 j = 4 ∧ (j + 4 - S.1 14 0) % 4 < d)
noncomputable def Xp (S : zS) (n : Nat) : Nat → Bool := fun j => bb (j < n ∧ S.1 10 j = 4)
theorem Xd_s {S : zS} {d p : Nat} (b14 : S.1 14 0 < 4) (hd : d < 4) (hp : p = (S.1 14 0 + d) % 4) (e : S.1 10 p = 4) : Xd S (d + 1) = ins (Xd S d) p := by
  funext j
  refine bb_eq ⟨fun ⟨h1, h2, h3⟩ => ?_, fun h => ?_⟩
  · by_cases q : j = p
    · exact Or.inr q
    · exact Or.inl (bb_t ⟨h1, h2, by omega⟩)
  · rcases h with h | h
    · obtain ⟨h1, h2, h3⟩ := bb_iff.mp h
      exact ⟨h1, h2, by omega⟩
    · subst h; exact ⟨by omega, e, by omega⟩
theorem Xd_n {S : zS} {d p : Nat} (b14 : S.1 14 0 < 4) (hd : d < 4) (hp : p = (S.1 14 0 + d) % 4) (e : ¬ S.1 10 p = 4) : Xd S (d + 1) = Xd S d := by
  funext j
  refine bb_eq ⟨fun ⟨h1, h2, h3⟩ => ⟨h1, h2, ?_⟩, fun ⟨h1, h2, h3⟩ => ⟨h1, h2, by omega⟩⟩
  refine Classical.byContradiction (fun q => e ?_)
  rw [show p = j by omega]
  exact h2
theorem Xp_s {S : zS} {n : Nat} (e : S.1 10 n = 4) : Xp S (n + 1) = ins (Xp S n) n := by
  funext j
  refine bb_eq ⟨fun ⟨h1, h2⟩ => ?_, fun h => ?_⟩
  · by_cases q : j = n
    · exact Or.inr q
    · exact Or.inl (bb_t ⟨by omega, h2⟩)
  · rcases h with h | h
    · obtain ⟨h1, h2⟩ := bb_iff.mp h
      exact ⟨by omega, h2⟩
    · subst h; exact ⟨by omega, e⟩
theorem Xp_n {S : zS} {n : Nat} (e : ¬ S.1 10 n = 4) : Xp S (n + 1) = Xp S n := by
  funext j
  refine bb_eq ⟨fun ⟨h1, h2⟩ => ⟨?_, h2⟩, fun ⟨h1, h2⟩ => ⟨by omega, h2⟩⟩
  refine Classical.byContradiction (fun q => e ?_)
  rw [show n = j by omega]
  exact h2
theorem Xd_4 (S : zS) : Xd S 4 = Xp S 4 := by
  funext j
  exact bb_eq ⟨fun ⟨h1, h2, _⟩ => ⟨h1, h2⟩, fun ⟨h1, h2⟩ => ⟨h1, h2, by omega⟩⟩
/-- the first of those who win -/
theorem ex_f {S : zS} (H : Wh S) (hx : ∃ p, p < 4 ∧ S.1 10 p = 4) : ∃ d, 1 ≤ d ∧ d ≤ 3 ∧ S.1 10 ((S.1 14 0 + d) % 4) = 4 ∧ ∀ e, 1 ≤ e → e < d → ¬ S.1 10 ((S.1 14 0 + e) % 4) = 4 := by
  obtain ⟨p, hp, e⟩ := hx
  have n14 := H.n14 hp (by omega)
  have b14 := H.1.1.b14 0
  by_cases h1 : S.1 10 ((S.1 14 0 + 1) % 4) = 4
  · exact ⟨1, by omega, by omega, h1, fun e _ _ => by omega⟩
  · by_cases h2 : S.1 10 ((S.1 14 0 + 2) % 4) = 4
    · refine ⟨2, by omega, by omega, h2, fun e h3 h4 => ?_⟩
      rw [show e = 1 by omega]; exact h1
    · refine ⟨3, by omega, by omega, ?_, fun e h3 h4 => ?_⟩
      · have : (p + 4 - S.1 14 0) % 4 = 1 ∨ (p + 4 - S.1 14 0) % 4 = 2 ∨ (p + 4 - S.1 14 0) % 4 = 3 := by omega
        rcases this with q | q | q
        · rw [show (S.1 14 0 + 1) % 4 = p by omega] at h1; exact absurd e h1
        · rw [show (S.1 14 0 + 2) % 4 = p by omega] at h2; exact absurd e h2
        · rw [show (S.1 14 0 + 3) % 4 = p by omega]; exact e
      · rcases (show e = 1 ∨ e = 2 by omega) with q | q <;> rw [q] <;> assumption
theorem Xw {S : zS} (H : Wh S) (P : Nat → Prop) : bb (P (S.1 14 0) ∧ S.1 10 (S.1 14 0) = 4) = false :=
  bb_f (fun z => H.n14 (p := S.1 14 0) (by have := H.1.1.b14 0; omega) (by omega) rfl)
theorem Xd_w {S : zS} (H : Wh S) (d : Nat) : Xd S d (S.1 14 0) = false :=
  bb_f (fun z => H.n14 (p := S.1 14 0) (by have := H.1.1.b14 0; omega) (by omega) rfl)
theorem Xp_w {S : zS} (H : Wh S) (n : Nat) : Xp S n (S.1 14 0) = false :=
  bb_f (fun z => H.n14 (p := S.1 14 0) (by have := H.1.1.b14 0; omega) (by omega) rfl)
theorem wn_Wg {S : zS} (J : Jg) (H : Wh S) (f : Nat) : Wg (wnS S f (Xp S 4) true) := by
  have Ho := H.o
  obtain ⟨G, s, tt, rv, h21, h27, an⟩ := H
  obtain ⟨B, M, w, r, wc, p1, p2, p3, o⟩ := G
  refine ⟨B, M, fun p hp => ?_, r.c rfl rfl rfl rfl rfl rfl (by funext j; rfl), wc, p1, p2, p3, o⟩
  have hs := w p hp
  have e2 : (wnS S f (Xp S 4) true).2.2 0 p = if Xp S 4 p = true then lN (jd S p false).2.2.2 else S.2.2 0 p := by
    show (if 0 = 0 ∧ Xp S 4 p = true then _ else S.2.2 0 p) = _
    by_cases q : Xp S 4 p = true
    · rw [if_pos ⟨rfl, q⟩, if_pos q]
    · rw [if_neg (fun z => q z.2), if_neg q]
  have e3 : ∀ a i, (a = 33 ∨ a = 36) → i < 4 → (wnS S f (Xp S 4) true).2.1 a (4 * p + i) = if Xp S 4 p = true then val_ S f (4 * p + i) else S.2.1 a (4 * p + i) := by
    intro a i ha hi
    show (if a = 30 ∧ 4 * p + i = S.1 14 0 then _ else if a = 30 ∧ Xp S 4 (4 * p + i) = true then _ else if (a = 33 ∨ a = 36) ∧ Xp S 4 ((4 * p + i) / 4) = true then val_ S f (4 * p + i) else if a = 35 ∧ 4 * p + i = 0 ∧ true = true then 0 else S.2.1 a (4 * p + i)) = _
    rw [if_neg (by omega), if_neg (by omega), show (4 * p + i) / 4 = p by omega]
    by_cases q : Xp S 4 p = true
    · rw [if_pos ⟨ha, q⟩, if_pos q]
    · rw [if_neg (fun z => q z.2), if_neg (by omega), if_neg q]
  rw [e2]
  have e30 := e3 36 0 (Or.inr rfl) (by omega)
  have e31 := e3 33 0 (Or.inl rfl) (by omega)
  rw [Nat.add_zero] at e30 e31
  by_cases q : Xp S 4 p = true
  · rw [if_pos q, e30, e31, if_pos q, if_pos q]
    have e4 := (bb_iff.mp q).2
    have hy : ¬ (jd S p false).2.2.2 = 0 := by
      have a := an p hp
      unfold an_ at a
      rcases a with z | ⟨_, z | ⟨_, _, _, z | z | z⟩⟩
      · omega
      · exact z.2
      · omega
      · omega
      · omega
    obtain ⟨hb1, hb2⟩ := J.2.2.2 S p false (Ho.j hp)
    refine ⟨fun z => ?_, fun _ => ⟨?_, fun i hi => ?_⟩⟩
    · rw [lN_0 (Nat.lt_trans hb2 (by decide))] at z
      exact absurd z hy
    · unfold val_
      rw [if_pos (by omega), show 4 * p / 4 = p by omega]
      exact nI_n0 (Nat.lt_trans hb1 (by decide))
    · rw [e3 33 i (Or.inl rfl) hi, e3 36 i (Or.inr rfl) hi, if_pos q, if_pos q]
  · rw [if_neg q, e30, e31, if_neg q, if_neg q]
    refine ⟨hs.1, fun z => ⟨(hs.2 z).1, fun i hi => ?_⟩⟩
    rw [e3 33 i (Or.inl rfl) hi, e3 36 i (Or.inr rfl) hi, if_neg q, if_neg q]
    exact (hs.2 z).2 i hi
theorem bI_1 {b : Bool} (h : ¬ bI b = 0) : b = true := by
  cases b
  · exact absurd rfl h
  · rfl
theorem ins_d (X : Nat → Bool) (p d : Nat) : ins X p d = (X d || decide (p = d)) := by
  by_cases h : d = p
  · rw [h, ins_p, decide_eq_true rfl, Bool.or_true]
  · rw [ins_n X h, decide_eq_false (fun z => h z.symm), Bool.or_false]
theorem w_payForTile {d0 : Nat} {m m0 : zm} {S : zS} {K : zm → Prop} (J : Jg) (H : Wh S) (h1 : 1 ≤ d0) (h3 : d0 ≤ 3) (hf : S.1 10 ((S.1 14 0 + d0) % 4) = 4) (hm : ∀ e, 1 ≤ e → e < d0 → ¬ S.1 10 ((S.1 14 0 + e) % 4) = 4) (R : Rc m S m0) (k : ∀ m', Rc m' (ehS (wnS S ((S.1 14 0 + d0) % 4) (Xp S 4) true) (Xp S 4 (S.1 12 0)) false) m0 → K m') : j_Table_payForTile m K := by
  have B := H.1.1
  have b14 := B.b14 0
  have b12 := B.b12 0
  have main : ∀ n d m, d + n = 4 → 1 ≤ d → Rc m (wnS S ((S.1 14 0 + d0) % 4) (Xd S d) true) m0 → j_Table_payForTile_L19 K (n + 1) (bI (Xd S d (S.1 12 0))) (if d ≤ d0 then 1000 * S.2.1 35 0 else 0) (if d ≤ d0 then 300 * S.2.1 34 0 else 0) (nI d) m := by
    intro n
    induction n with
    | zero =>
      intro d m hd hd1 R
      have e4 : d = 4 := by omega
      subst e4
      rw [j_Table_payForTile_L19, show ((4 : Int32) ≤ nI 4) = True from propext ⟨fun _ => trivial, fun _ => by decide⟩]
      refine ⟨fun _ => ?_, fun z => absurd trivial z⟩
      refine w_endHand (mo := false) R (wn_o H.o _ _ _).1 (fun m1 R => k m1 ?_)
      rw [Xd_4] at R
      exact R
    | succ n ih =>
      intro d m hd hd1 R
      have hd4 : d < 4 := by omega
      have hp : (S.1 14 0 + d) % 4 < 4 := by omega
      have b10 := B.b10 ((S.1 14 0 + d) % 4)
      rw [j_Table_payForTile_L19, show ((4 : Int32) ≤ nI d) = (4 ≤ d) from pz_le (a := 4) (by omega) (by omega), show m.1 0 8 = nI (S.1 14 0) from R.g14, nI_add, pz_rem4 (by omega)]
      refine ⟨fun z => by omega, fun _ y hy => ?_⟩
      subst hy
      refine ⟨pz_in hp (by omega), fun y7 hy7 => ?_⟩
      rw [nI_clamp (by omega)] at hy7
      subst hy7
      rw [show m.1 (13 + 5 * ((S.1 14 0 + d) % 4)) 11 = nI (S.1 10 ((S.1 14 0 + d) % 4)) from R.g10 hp, show (nI (S.1 10 ((S.1 14 0 + d) % 4)) = 4) = (S.1 10 ((S.1 14 0 + d) % 4) = 4) from pz_eq (b := 4) (by omega) (by omega)]
      refine ⟨fun h y hy => ?_, fun h => ?_⟩
      · rw [hy, nI_1]
        have hne : ¬ d = d0 := fun z => h (by rw [z]; exact hf)
        have := ih (d + 1) m (by omega) (by omega) (by rw [Xd_n (by omega) hd4 rfl h]; exact R)
        rw [Xd_n (by omega) hd4 rfl h] at this
        by_cases q : d ≤ d0
        · rw [if_pos (show d + 1 ≤ d0 by omega), if_pos (show d + 1 ≤ d0 by omega)] at this
          rw [if_pos q, if_pos q]; exact this
        · rw [if_neg (show ¬ d + 1 ≤ d0 by omega), if_neg (show ¬ d + 1 ≤ d0 by omega)] at this
          rw [if_neg q, if_neg q]; exact this
      · have hge : d0 ≤ d := Classical.byContradiction (fun z => hm d hd1 (by omega) h)
        have hpf : ((S.1 14 0 + d) % 4 = (S.1 14 0 + d0) % 4) ↔ d ≤ d0 := ⟨fun z => by omega, fun z => by rw [show d = d0 by omega]⟩
        have hXp : Xd S d ((S.1 14 0 + d) % 4) = false := bb_f (fun z => by omega)
        refine w_payOne J H hp h hXp (Xd_w H d) (f := (S.1 14 0 + d0) % 4) (x3 := if d ≤ d0 then 300 * S.2.1 34 0 else 0) (x2 := if d ≤ d0 then 1000 * S.2.1 35 0 else 0) ?_ ?_ R (fun m11 g4 pay => ?_)
        · by_cases q : d ≤ d0
          · rw [if_pos q, if_pos (hpf.mpr q)]
          · rw [if_neg q, if_neg (fun z => q (hpf.mp z))]
        · by_cases q : d ≤ d0
          · rw [if_pos q, if_pos (hpf.mpr q)]
          · rw [if_neg q, if_neg (fun z => q (hpf.mp z))]
        · rw [g4, pz_eq (by omega) (by omega)]
          have nx : ∀ m18 x, Rc m18 (wnS S ((S.1 14 0 + d0) % 4) (ins (Xd S d) ((S.1 14 0 + d) % 4)) true) m0 → x = bI (Xd S (d + 1) (S.1 12 0)) → j_Table_payForTile_L178 (j_Table_payForTile_L19 K (n + 1)) K (nI d) x m18 := by
            intro m18 x R hx y hy
            rw [hy, nI_1, hx]
            have := ih (d + 1) m18 (by omega) (by omega) (by rw [Xd_s (by omega) hd4 rfl h]; exact R)
            rw [if_neg (show ¬ d + 1 ≤ d0 by omega), if_neg (show ¬ d + 1 ≤ d0 by omega)] at this
            exact this
          have fin : ∀ m18, Rc m18 (wnS S ((S.1 14 0 + d0) % 4) (ins (Xd S d) ((S.1 14 0 + d) % 4)) true) m0 → ((¬ bI (Xd S d (S.1 12 0)) = 0 → (j_Table_payForTile_L173 (j_Table_payForTile_L19 K (n + 1)) K (nI d) m18)) ∧ (bI (Xd S d (S.1 12 0)) = 0 → ((¬ nI ((S.1 14 0 + d) % 4) = (m18.1 0 4) → (j_Table_payForTile_L178 (j_Table_payForTile_L19 K (n + 1)) K (nI d) 0 m18)) ∧ (nI ((S.1 14 0 + d) % 4) = (m18.1 0 4) → (j_Table_payForTile_L173 (j_Table_payForTile_L19 K (n + 1)) K (nI d) m18))))) := by
            intro m18 R
            rw [show m18.1 0 4 = nI (S.1 12 0) from R.g12, pz_eq (by omega) (by omega)]
            have ei := ins_d (Xd S d) ((S.1 14 0 + d) % 4) (S.1 12 0)
            rw [← Xd_s (by omega) hd4 rfl h] at ei
            refine ⟨fun q => nx m18 1 R ?_, fun q => ⟨fun q2 => nx m18 0 R ?_, fun q2 => nx m18 1 R ?_⟩⟩
            · rw [ei, bI_1 q]; rfl
            · rw [bI_0] at q
              rw [ei, q, decide_eq_false q2]; rfl
            · rw [ei, decide_eq_true q2, Bool.or_true]; rfl
          exact ⟨fun q => pay 4 _ (by rw [if_neg q]) fin, fun q => pay 6 _ (by rw [if_pos q]) fin⟩
  unfold j_Table_payForTile j_Table_takeSticks
  rw [R.g35]
  intro y hy
  subst hy
  refine R.t35 (fun m1 R y3 hy3 => ⟨4, ?_⟩)
  rw [hy3, show m1.1 0 6 = S.2.1 34 0 from R.g34]
  have e0 : ∀ j, Xd S 1 j = false := fun j => bb_f (fun z => by
    have hj : j = S.1 14 0 := by omega
    exact H.n14 (p := j) z.1 (by omega) hj)
  have := main 3 1 m1 (by omega) (by omega) (by rw [(wn_0 S _ e0).1]; exact R)
  rw [e0, if_pos h1, if_pos h1] at this
  exact this
