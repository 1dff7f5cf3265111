/-! THE REFERENCE FINDS THE BEST READING -/
theorem w_load2 {p w : Nat} {a2 : Int32} {c d a : Nat → Nat} {m : zm} {K : Int32 → zm → Prop} (hp : p < 4) (hr : rP m p c d w) (ha : ∀ k, k < 34 → a k ≤ 1 ∧ (nI k = a2 ↔ a k = 1)) (hK : ∀ m', (∀ q j, ¬ q = 50 → m'.1 q j = m.1 q j) → m'.2 = m.2 → (∀ k, k < 34 → m'.1 50 k = nI (c k + a k)) → K (nI (csum (fun k => c k + a k) 34)) m') : j_Model_load (nI p) a2 m K := by
  have key : ∀ (n k : Nat), k + n = 34 → ∀ m', (∀ q j, ¬ q = 50 → m'.1 q j = m.1 q j) → m'.2 = m.2 → (∀ j, j < k → m'.1 50 j = nI (c j + a j)) → j_Model_load_L5 (nI p) a2 K (n + 1) (nI (csum (fun k => c k + a k) k)) (nI k) m' := by
    intro n
    induction n with
    | zero =>
      intro k hk m' he he2 hw
      have hk : k = 34 := by omega
      subst hk
      rw [j_Model_load_L5]
      exact ⟨fun _ => hK m' he he2 (fun j hj => hw j hj), fun h => absurd (by decide) h⟩
    | succ n ih =>
      intro k hk m' he he2 hw
      have hk34 : k < 34 := by omega
      have hck : m'.1 36 (34 * p + k) = nI (c k) := by rw [he 36 _ (by omega)]; exact (hr.1 k hk34).1
      obtain ⟨ha1, ha2⟩ := ha k hk34
      have step : ∀ t : Nat, a k = t → j_Model_load_L41 (nI p) a2 (j_Model_load_L5 (nI p) a2 K (n + 1)) K (nI (csum (fun k => c k + a k) k)) (nI k) (nI t) (m'.1 36 (Int32.toNatClampNeg ((34 * nI p) + nI k))) (nI k) m' := by
        intro t ht
        refine ⟨pz_in hk34 (by omega), fun m1 h1 => ⟨pz_in hk34 (by omega), fun y2 h2 y3 h3 => ?_⟩⟩
        rw [pz_34, nI_clamp (by omega), nI_clamp (by omega), hck, nI_add] at h1
        have e2 : y2 = nI (csum (fun k => c k + a k) (k + 1)) := by
          rw [h2, nI_clamp (by omega), h1, pz_rI, if_pos ⟨rfl, rfl⟩, nI_add, csum, ht]
        rw [e2, h3, nI_1]
        refine ih (k + 1) (by omega) m1 (fun q j hq => ?_) ?_ ?_
        · rw [h1, pz_rI, if_neg (fun z => hq z.1)]; exact he q j hq
        · rw [h1, pz_rI2]; exact he2
        · intro j hj
          rw [h1, pz_rI]
          by_cases ej : j = k
          · subst ej
            rw [if_pos ⟨rfl, rfl⟩, ht]
          · rw [if_neg (fun z => ej z.2)]
            exact hw j (by omega)
      rw [j_Model_load_L5]
      refine ⟨fun h => ?_, fun _ => ⟨by rw [pz_34]; exact pz_in (by omega) (by omega), fun h => ?_, fun h => ?_⟩⟩
      · have h : 34 ≤ k := (nI_leI (a := 34) (by omega) (by omega)).mp h
        omega
      · exact step 0 (by have : ¬ a k = 1 := fun e => h (ha2.mpr e); omega)
      · exact step 1 (ha2.mp h)
  exact ⟨35, key 34 0 rfl m (fun _ _ _ => rfl) rfl (fun j hj => by omega)⟩
/-! masks are choices of triplets -/
theorem tl_tlt (c : Nat → Nat) (mask : Nat) : ∀ n, tl c mask n = tlt (tm c mask) n
  | 0 => rfl
  | n + 1 => by rw [tl, tlt, tl_tlt c mask n]
theorem ow_mask (e : Nat → Nat) (pr mask : Nat) : tl (dn e pr 2) mask 34 ++ rl (tr_ (dn e pr 2) mask) 34 0 0 0 = ow_ e pr (tm (dn e pr 2) mask) := by
  rw [tl_tlt]
  rfl
theorem rl_c {R R' : Nat → Nat} : ∀ (n k a b : Nat), (∀ j, k ≤ j → j < k + n → R j = R' j) → rl R n k a b = rl R' n k a b
  | 0, _, _, _, _ => rfl
  | n + 1, k, a, b, h => by rw [rl, rl, h k (Nat.le_refl _) (by omega), rl_c n (k + 1) _ _ (fun j h1 h2 => h j (by omega) (by omega))]
theorem tlt_c {t t' : Nat → Nat} : ∀ n, (∀ j, j < n → t j = t' j) → tlt t n = tlt t' n
  | 0, _ => rfl
  | n + 1, h => by rw [tlt, tlt, tlt_c n (fun j hj => h j (by omega)), h n (by omega)]
theorem ow_c {e t t' : Nat → Nat} {pr : Nat} (h : ∀ j, j < 34 → t j = t' j) : ow_ e pr t = ow_ e pr t' := by
  unfold ow_
  rw [tlt_c 34 h, rl_c 34 0 0 0 (fun j _ hj => by rw [h j (by omega)])]
theorem way_m {e : Nat → Nat} (he : ∀ j, e j ≤ 4) {pr : Nat} {t : Nat → Nat} (h : way_ e pr t) : ∃ mask, mask < 2 ^ tix (dn e pr 2) 34 ∧ way_ e pr (tm (dn e pr 2) mask) ∧ ow_ e pr (tm (dn e pr 2) mask) = ow_ e pr t := by
  obtain ⟨w1, w2, w3, w4⟩ := h
  have hd : ∀ j, dn e pr 2 j < 6 := fun j => by have := he j; unfold dn; split <;> omega
  have eq : ∀ j, j < 34 → tm (dn e pr 2) (mo (dn e pr 2) t 34) j = t j := fun j hj => tm_mo hd w3 hj
  refine ⟨mo (dn e pr 2) t 34, mo_lt (fun j => by have := w3 j; have := hd j; omega) 34, ⟨w1, w2, fun j => tm_3 _ _ j, ?_⟩, ow_c eq⟩
  rw [← w4]
  exact rs_cong 34 0 0 0 (fun j _ hj => by rw [eq j (by omega)])
theorem Wj.o {S : zS} {p : Nat} {sd : Bool} (W : Wj S p sd) {pr : Nat} {t : Nat → Nat} (h : way_ (ec S p sd) pr t) : (ow_ (ec S p sd) pr t).length + S.1 2 p = 4 ∧ ∀ x, x ∈ ow_ (ec S p sd) pr t → x.1 < 3 ∧ x.2 < 34 := by
  have ht := way_1 W.e4 h
  have hP := clw_ow (e := ec S p sd) (p := pr) ht
  have hx := (tA_mem W.e4).mpr ⟨t, h, rfl⟩
  have hl := W.l4 _ hx
  refine ⟨?_, fun x hm => ?_⟩
  · have := hP.length_eq
    rw [List.length_map] at this
    rw [← this]
    have hl : S.1 2 p + (clw (fun j => dn (ec S p sd) pr 2 j - 3 * t j) t 34 0 0 0).length = 4 := hl
    omega
  · have := hP.symm.mem_iff.mp hm
    obtain ⟨c, hc, e⟩ := List.mem_map.mp this
    obtain ⟨j, j1, j2, j3⟩ := clw_m 34 0 0 0 hc
    rw [← e]
    rcases j3 with j3 | j3
    · rw [j3, fk_0]; exact ⟨by show 0 < 3; omega, by show j < 34; omega⟩
    · rw [j3, fk_1]; exact ⟨by show 1 < 3; omega, by show j < 34; omega⟩
/-- what was rated before a pair and a mask -/
def Pw (P0 : zV → Prop) (e : Nat → Nat) (last : Nat) (val : List (Nat × Nat) → Nat → Option Nat → zV) (pr mask : Nat) : zV → Prop := fun v => P0 v ∨ (¬ v.2.2.2 = 0 ∧ ∃ q k a, ((q < pr ∧ k < 2 ^ tix (dn e q 2) 34) ∨ (q = pr ∧ k < mask)) ∧ way_ e q (tm (dn e q 2) k) ∧ at_ last q (ow_ e q (tm (dn e q 2) k)) a ∧ v = val (ow_ e q (tm (dn e q 2) k)) q a)
theorem aa_all {last pr : Nat} {O : List (Nat × Nat)} {Q : Option Nat → Prop} : (∃ i, i < O.length + 1 ∧ at_ last pr O (aa i) ∧ Q (aa i)) ↔ ∃ a, at_ last pr O a ∧ Q a := by
  constructor
  · rintro ⟨i, _, h⟩
    exact ⟨aa i, h⟩
  · rintro ⟨a, h1, h2⟩
    cases a with
    | none => exact ⟨0, by omega, h1, h2⟩
    | some i =>
      obtain ⟨x, hx, _⟩ := id h1
      have := gO_ltg hx
      exact ⟨i + 1, by omega, h1, h2⟩
theorem Pw_1 {P0 : zV → Prop} {e : Nat → Nat} {last pr mask : Nat} {val : List (Nat × Nat) → Nat → Option Nat → zV} (hw : way_ e pr (tm (dn e pr 2) mask)) (v : zV) : Pm (Pw P0 e last val pr mask) last pr (ow_ e pr (tm (dn e pr 2) mask)) (val (ow_ e pr (tm (dn e pr 2) mask)) pr) ((ow_ e pr (tm (dn e pr 2) mask)).length + 1) v ↔ Pw P0 e last val pr (mask + 1) v := by
  unfold Pm
  rw [aa_all (Q := fun a => v = val (ow_ e pr (tm (dn e pr 2) mask)) pr a)]
  constructor
  · rintro ((z | ⟨z, q, k, a, h1, h2⟩) | ⟨z, a, h1, h2⟩)
    · exact Or.inl z
    · exact Or.inr ⟨z, q, k, a, by omega, h2⟩
    · exact Or.inr ⟨z, pr, mask, a, by omega, hw, h1, h2⟩
  · rintro (z | ⟨z, q, k, a, h1, h2, h3, h4⟩)
    · exact Or.inl (Or.inl z)
    · by_cases y : q = pr ∧ k = mask
      · rw [y.1, y.2] at h3 h4
        exact Or.inr ⟨z, a, h3, h4⟩
      · exact Or.inl (Or.inr ⟨z, q, k, a, by omega, h2, h3, h4⟩)
theorem Pw_0 {P0 : zV → Prop} {e : Nat → Nat} {last pr mask : Nat} {val : List (Nat × Nat) → Nat → Option Nat → zV} (hw : ¬ way_ e pr (tm (dn e pr 2) mask)) (v : zV) : Pw P0 e last val pr mask v ↔ Pw P0 e last val pr (mask + 1) v := by
  constructor
  · rintro (z | ⟨z, q, k, a, h1, h2⟩)
    · exact Or.inl z
    · exact Or.inr ⟨z, q, k, a, by omega, h2⟩
  · rintro (z | ⟨z, q, k, a, h1, h2, h3⟩)
    · exact Or.inl z
    · by_cases y : q = pr ∧ k = mask
      · rw [y.1, y.2] at h2
        exact absurd h2 hw
      · exact Or.inr ⟨z, q, k, a, by omega, h2, h3⟩
theorem Pw_n {P0 : zV → Prop} {e : Nat → Nat} {last pr mask : Nat} {val : List (Nat × Nat) → Nat → Option Nat → zV} (h : e pr < 2 ∨ mask = 2 ^ tix (dn e pr 2) 34) (v : zV) : Pw P0 e last val pr mask v ↔ Pw P0 e last val (pr + 1) 0 v := by
  constructor
  · rintro (z | ⟨z, q, k, a, h1, h2, h3⟩)
    · exact Or.inl z
    · refine Or.inr ⟨z, q, k, a, ?_, h2, h3⟩
      rcases h1 with h1 | h1
      · exact Or.inl ⟨by omega, h1.2⟩
      · have := h2.2.1
        rw [h1.1] at this ⊢
        refine Or.inl ⟨by omega, ?_⟩
        rcases h with h | h
        · omega
        · omega
  · rintro (z | ⟨z, q, k, a, h1, h2, h3⟩)
    · exact Or.inl z
    · refine Or.inr ⟨z, q, k, a, ?_, h2, h3⟩
      rcases h1 with h1 | h1
      · by_cases y : q = pr
        · have := h2.2.1
          rw [y] at this
          rcases h with h | h
          · omega
          · refine Or.inr ⟨y, ?_⟩
            rw [h, ← y]
            exact h1.2
        · exact Or.inl ⟨by omega, h1.2⟩
      · omega
theorem Pw_e {S : zS} {p : Nat} {sd : Bool} (W : Wj S p sd) (v : zV) : Pw (O2 S p sd) (ec S p sd) (til S) (vw_ (en_ S p sd) (hb_ S p sd) (tb_ (ac S p sd) (S.1 2 p)) (dor S p (ac S p sd) (S.1 17 0 + 1)) (mf S p) (S.1 2 p)) 34 0 v ↔ Rdv S p sd v := by
  unfold Rdv Rd_ Pw O2 O1
  constructor
  · rintro ((⟨a, b⟩ | ⟨a, b⟩) | ⟨a, q, k, x, _, h2, h3, h4⟩)
    · exact ⟨a, Or.inl b⟩
    · exact ⟨a, Or.inr (Or.inl b)⟩
    · exact ⟨a, Or.inr (Or.inr ⟨q, _, x, h2, h3, h4⟩)⟩
  · rintro ⟨a, b | b | ⟨q, t, x, h2, h3, h4⟩⟩
    · exact Or.inl (Or.inl ⟨a, b⟩)
    · exact Or.inl (Or.inr ⟨a, b⟩)
    · obtain ⟨k, k1, k2, k3⟩ := way_m W.e4 h2
      refine Or.inr ⟨a, q, k, x, Or.inl ⟨h2.1, k1⟩, k2, ?_, ?_⟩
      · rw [k3]; exact h3
      · rw [k3]; exact h4
/-! the loops -/
theorem w_L190 {S : zS} {p : Nat} {sd : Bool} {a1 a2 a3 a4 : Int32} {m0 : zm} {K : Int32 → zm → Prop} (W : Wj S p sd) (kk : ∀ m' u', Rr m' S m0 → Hq m' u' → Gr (Rdv S p sd) u' → K (yb u') m') :
    ∀ n pr m u, pr + n = 34 → Fr m S m0 p sd → m.1 33 44 = nI pr → Hq m u → Gr (Pw (O2 S p sd) (ec S p sd) (til S) (vw_ (en_ S p sd) (hb_ S p sd) (tb_ (ac S p sd) (S.1 2 p)) (dor S p (ac S p sd) (S.1 17 0 + 1)) (mf S p) (S.1 2 p)) pr 0) u → j_Model_worthy_L190 a1 a2 a3 a4 K (n + 1) (nI (4 - S.1 2 p)) (lY (fun j => hb_ S p sd j || tb_ (ac S p sd) (S.1 2 p) j)) m := by
  have b2 := W.1.b2 p
  have e4 := W.e4
  have es := W.es
  intro n
  induction n with
  | zero =>
    intro pr m u hn F g44 H G
    have e : pr = 34 := by omega
    subst e
    rw [j_Model_worthy_L190, g44, show ((34 : Int32) ≤ nI 34) = True from propext ⟨fun _ => trivial, fun _ => by decide⟩]
    refine ⟨fun _ => ?_, fun z => absurd trivial z⟩
    have kk' := kk m u F.1 H (G.c (Pw_e W))
    obtain ⟨vv, h1, h2, h3, h4⟩ := H
    unfold yb at kk'
    rw [h4, pz_cmp0, lN_0 (Nat.lt_trans vv.2.2.2 (by decide))]
    refine ⟨fun z => ⟨Or.inl rfl, ?_⟩, fun z => ⟨Or.inr rfl, ?_⟩⟩
    · rw [if_pos z] at kk'; exact kk'
    · rw [if_neg z] at kk'; exact kk'
  | succ n ih =>
    intro pr m u hn F g44 H G
    have hpr : pr < 34 := by omega
    rw [j_Model_worthy_L190, g44, show ((34 : Int32) ≤ nI pr) = (34 ≤ pr) from pz_le (a := 34) (by omega) (by omega)]
    refine ⟨fun z => by omega, fun _ => ?_⟩
    have l249 : ∀ m1 u1 mask, eqX m m1 → m1.1 33 44 = nI pr → Hq m1 u1 → (ec S p sd pr < 2 ∨ mask = 2 ^ tix (dn (ec S p sd) pr 2) 34) → Gr (Pw (O2 S p sd) (ec S p sd) (til S) (vw_ (en_ S p sd) (hb_ S p sd) (tb_ (ac S p sd) (S.1 2 p)) (dor S p (ac S p sd) (S.1 17 0 + 1)) (mf S p) (S.1 2 p)) pr mask) u1 → j_Model_worthy_L249 a1 a2 a3 a4 (j_Model_worthy_L190 a1 a2 a3 a4 K (n + 1)) K (nI (4 - S.1 2 p)) (lY (fun j => hb_ S p sd j || tb_ (ac S p sd) (S.1 2 p) j)) m1 := by
      intro m1 u1 mask E g44 H1 hx G1 m2 h2
      rw [g44, nI_1] at h2
      exact ih (pr + 1) m2 u1 (by omega) (F.x (E.tr (by rw [h2]; exact eqX.i (by omega)))) (by rw [h2, pz_rI, if_pos ⟨rfl, rfl⟩]) (by rw [h2]; exact H1.i (by omega)) (G1.c (Pw_n hx))
    have pa : ∀ m1, eqX m m1 → pA m1 50 (ec S p sd) := fun m1 E k hk => ⟨(F.x E).2.2.2.2.1 k hk, by have := e4 k; omega⟩
    by_cases q2 : ec S p sd pr < 2
    · refine ⟨0 + 1, ?_⟩
      rw [j_Model_worthy_L202, g44, nI_clamp (by omega), F.2.2.2.2.1 pr hpr, show (nI (ec S p sd pr) < 2) = (ec S p sd pr < 2) from pz_lt (b := 2) (by omega) (by omega)]
      exact ⟨pz_in (by omega) (by omega), fun _ => l249 m u 0 eqX.rf g44 H (Or.inl q2) G, fun z => absurd q2 z⟩
    · have q2' : 2 ≤ ec S p sd pr := by omega
      have htix : tix (dn (ec S p sd) pr 2) 34 ≤ 4 := by
        have h1 := tix_3 (dn (ec S p sd) pr 2) 34
        have h2 := csum_dn (R := ec S p sd) (k := pr) (r := 2) q2' 34
        rw [if_pos hpr] at h2
        omega
      have hN : 2 ^ tix (dn (ec S p sd) pr 2) 34 ≤ 2 ^ 4 := Nat.pow_le_pow_right (by omega) htix
      have main : ∀ c mask m1 u1, mask + c = 2 ^ tix (dn (ec S p sd) pr 2) 34 → eqX m m1 → m1.1 33 44 = nI pr → Hq m1 u1 → Gr (Pw (O2 S p sd) (ec S p sd) (til S) (vw_ (en_ S p sd) (hb_ S p sd) (tb_ (ac S p sd) (S.1 2 p)) (dor S p (ac S p sd) (S.1 17 0 + 1)) (mf S p) (S.1 2 p)) pr mask) u1 → j_Model_worthy_L202 a1 a2 a3 a4 (j_Model_worthy_L190 a1 a2 a3 a4 K (n + 1)) K (c + 1) (nI (4 - S.1 2 p)) (lY (fun j => hb_ S p sd j || tb_ (ac S p sd) (S.1 2 p) j)) (nI mask) m1 := by
        intro c
        induction c with
        | zero =>
          intro mask m1 u1 hm E g44 H1 G1
          have F1 := F.x E
          rw [j_Model_worthy_L202, g44, nI_clamp (by omega), F1.2.2.2.2.1 pr hpr, show (nI (ec S p sd pr) < 2) = (ec S p sd pr < 2) from pz_lt (b := 2) (by have := e4 pr; omega) (by omega)]
          refine ⟨pz_in (by omega) (by omega), fun z => absurd z q2, fun _ => w_Model_threes (pa m1 E) g44 hpr q2' ?_⟩
          rw [pz_pow (by omega), pz_le (by omega) (by omega)]
          exact ⟨fun _ => l249 m1 u1 mask E g44 H1 (Or.inr (by omega)) G1, fun z => absurd (by omega) z⟩
        | succ c ihc =>
          intro mask m1 u1 hm E g44 H1 G1
          have F1 := F.x E
          rw [j_Model_worthy_L202, g44, nI_clamp (by omega), F1.2.2.2.2.1 pr hpr, show (nI (ec S p sd pr) < 2) = (ec S p sd pr < 2) from pz_lt (b := 2) (by have := e4 pr; omega) (by omega)]
          refine ⟨pz_in (by omega) (by omega), fun z => absurd z q2, fun _ => w_Model_threes (pa m1 E) g44 hpr q2' ?_⟩
          rw [pz_pow (by omega), pz_le (by omega) (by omega)]
          refine ⟨fun z => by omega, fun _ => w_Model_apart (pa m1 E) g44 hpr q2' (by omega) (by omega) es (fun hr m2 a2' s2 g40 => ?_) (fun hr m2 a2' => ?_)⟩
          · have hway : way_ (ec S p sd) pr (tm (dn (ec S p sd) pr 2) mask) := ⟨hpr, q2', fun j => tm_3 _ _ j, hr⟩
            obtain ⟨o1, o2⟩ := W.o hway
            rw [ow_mask] at s2
            have g40' : m2.1 33 40 = nI (ow_ (ec S p sd) pr (tm (dn (ec S p sd) pr 2) mask)).length := by
              have hl : 4 - S.1 2 p = (ow_ (ec S p sd) pr (tm (dn (ec S p sd) pr 2) mask)).length := by omega
              rw [g40, hl]
            refine ⟨fun z => absurd z (by decide), fun _ => w_judgeSetsR W (F1.x a2'.X) rfl o1 o2 s2 g40' (by rw [(a2' 33 44 (by rintro (z | z) <;> omega)).1, g44]) hpr rfl (H1.A a2') G1 (fun m3 u3 E3 g3 H3 G3 z hz => ?_)⟩
            rw [hz, nI_1]
            exact ihc (mask + 1) m3 u3 (by omega) ((E.tr a2'.X).tr E3) g3 H3 (G3.c (Pw_1 hway))
          · have hway : ¬ way_ (ec S p sd) pr (tm (dn (ec S p sd) pr 2) mask) := fun z => by
              have := z.2.2.2
              rw [show rs (fun j => dn (ec S p sd) pr 2 j - 3 * tm (dn (ec S p sd) pr 2) mask j) 34 0 0 0 = rs (tr_ (dn (ec S p sd) pr 2) mask) 34 0 0 0 from rfl, hr] at this
              cases this
            refine ⟨fun _ z hz => ?_, fun z => absurd rfl z⟩
            rw [hz, nI_1]
            exact ihc (mask + 1) m2 u1 (by omega) (E.tr a2'.X) (by rw [(a2' 33 44 (by rintro (z | z) <;> omega)).1, g44]) (H1.A a2') (G1.c (Pw_0 hway))
      exact ⟨_, main (2 ^ tix (dn (ec S p sd) pr 2) 34) 0 m u (by omega) eqX.rf g44 H G⟩
