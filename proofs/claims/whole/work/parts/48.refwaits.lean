/-! THE REFERENCE: complete, waits, furiten -/
theorem eqA.p50 {m m' : zm} {e : Nat → Nat} (h : eqA m m') (he : pA m 50 e) : pA m' 50 e := fun k hk => by rw [(h 50 k (by rintro (z | z) <;> omega)).1]; exact he k hk
theorem eqA.pr {m m' : zm} {x : Int32} (h : eqA m m') (he : m.1 33 44 = x) : m'.1 33 44 = x := by rw [(h 33 44 (by rintro (z | z) <;> omega)).1]; exact he
theorem w_complete_L73 {a1 a2 : Int32} {R56 : Int32 → Int32 → zm → Prop} {K : Int32 → zm → Prop} {pr wd : Nat} {m : zm} {e : Nat → Nat} (hpr : pr < 34) (h2 : 2 ≤ e pr) (hwd : wd ≤ 4) (hsum : csum e 34 = 3 * wd + 2)
    (hT : (∃ mk, mk < 2 ^ tix (dn e pr 2) 34 ∧ rs (tr_ (dn e pr 2) mk) 34 0 0 0 = true) → ∀ m', eqF m m' → pA m' 50 e → m'.1 33 44 = nI pr → j_Model_complete_L117 a1 a2 R56 K (nI wd) 1 m')
    (hF : (¬ ∃ mk, mk < 2 ^ tix (dn e pr 2) 34 ∧ rs (tr_ (dn e pr 2) mk) 34 0 0 0 = true) → ∀ m', eqF m m' → pA m' 50 e → m'.1 33 44 = nI pr → j_Model_complete_L117 a1 a2 R56 K (nI wd) 0 m') :
    ∀ (n mask : Nat) (m' : zm), mask + n = 2 ^ tix (dn e pr 2) 34 → eqF m m' → pA m' 50 e → m'.1 33 44 = nI pr → (∀ mk, mk < mask → rs (tr_ (dn e pr 2) mk) 34 0 0 0 = false) → j_Model_complete_L73 a1 a2 R56 K (n + 1) (nI wd) 0 (nI mask) m' := by
  have h3 := tix_3 (dn e pr 2) 34
  have hds := csum_dn (R := e) (k := pr) (r := 2) h2 34
  rw [if_pos hpr] at hds
  have hth : tix (dn e pr 2) 34 ≤ 4 := by omega
  have hpw : 2 ^ tix (dn e pr 2) 34 ≤ 2 ^ 4 := Nat.pow_le_pow_right (by decide) hth
  -- a head of the loop with what was found
  intro n
  induction n with
  | zero =>
    intro mask m' hm em he hp hno
    obtain ⟨hck, hcb⟩ := he pr hpr
    rw [j_Model_complete_L73, hp, nI_clamp (by omega), hck]
    refine ⟨pz_in hpr (by omega), fun h => ?_, fun _ => w_Model_threes he hp hpr h2 ?_⟩
    · have h : e pr < 2 := (nI_ltI (b := 2) (by omega) (by omega)).mp h
      omega
    · rw [pz_pow (by omega)]
      refine ⟨fun _ => hF (fun ⟨mk9, z1, z2⟩ => ?_) m' em he hp, fun h => ?_⟩
      · rw [hno mk9 (by omega)] at z2; exact absurd z2 (by decide)
      · exact absurd (nI_le (by omega) (by omega)) h
  | succ n ih =>
    intro mask m' hm em he hp hno
    obtain ⟨hck, hcb⟩ := he pr hpr
    rw [j_Model_complete_L73, hp, nI_clamp (by omega), hck]
    refine ⟨pz_in hpr (by omega), fun h => ?_, fun _ => w_Model_threes he hp hpr h2 ?_⟩
    · have h : e pr < 2 := (nI_ltI (b := 2) (by omega) (by omega)).mp h
      omega
    · rw [pz_pow (by omega)]
      refine ⟨fun h => ?_, fun _ => ⟨fun z => absurd rfl z, fun _ => ?_⟩⟩
      · rw [pz_le (by omega) (by omega)] at h
        omega
      · refine w_Model_apart he hp hpr h2 (by omega) hwd hsum (fun hr m2 a2 _ _ y hy => ?_) (fun hr m2 a2 y hy => ?_)
        · have hp2 := a2.pr hp
          have he2 := a2.p50 he
          have em2 := em.trans a2.F
          obtain ⟨hck2, _⟩ := he2 pr hpr
          have hfound : ∃ mk, mk < 2 ^ tix (dn e pr 2) 34 ∧ rs (tr_ (dn e pr 2) mk) 34 0 0 0 = true := ⟨mask, by omega, hr⟩
          rw [j_Model_complete_L73, hp2, nI_clamp (by omega), hck2]
          refine ⟨pz_in hpr (by omega), fun h => ?_, fun _ => w_Model_threes he2 hp2 hpr h2 ⟨fun _ => hT hfound m2 em2 he2 hp2, fun _ => ⟨fun _ => hT hfound m2 em2 he2 hp2, fun z => absurd z (by decide)⟩⟩⟩
          have h : e pr < 2 := (nI_ltI (b := 2) (by omega) (by omega)).mp h
          omega
        · rw [hy, nI_1]
          refine ih (mask + 1) m2 (by omega) (em.trans a2.F) (a2.p50 he) (a2.pr hp) (fun mk hmk => ?_)
          rcases Nat.lt_or_eq_of_le (Nat.lt_succ_iff.mp hmk) with z | z
          · exact hno mk z
          · rw [z]; exact hr
theorem w_complete_L56 {a1 a2 : Int32} {K : Int32 → zm → Prop} {wd : Nat} {m : zm} {e : Nat → Nat} (hwd : wd ≤ 4) (hsum : csum e 34 = 3 * wd + 2) (he6 : ∀ j, e j < 6)
    (hT : (∃ p, p < 34 ∧ 2 ≤ e p ∧ g_sets e p 34 0 0 0 = true) → ∀ m', eqF m m' → K 1 m') (hF : (¬ ∃ p, p < 34 ∧ 2 ≤ e p ∧ g_sets e p 34 0 0 0 = true) → ∀ m', eqF m m' → K 0 m') :
    ∀ (n pr : Nat) (m' : zm), pr + n = 34 → eqF m m' → pA m' 50 e → m'.1 33 44 = nI pr → (¬ ∃ p, p < pr ∧ 2 ≤ e p ∧ g_sets e p 34 0 0 0 = true) → j_Model_complete_L56 a1 a2 K (n + 1) (nI wd) 0 m' := by
  have s44 : ∀ m' : zm, eqF m m' → ∀ x, eqF m (zm_wI m' 33 44 x) := fun m' h x => h.w (Or.inr ⟨rfl, by omega⟩) x
  intro n
  induction n with
  | zero =>
    intro pr m' hpr em he hp hno
    have hpr : pr = 34 := by omega
    subst hpr
    rw [j_Model_complete_L56, hp]
    exact ⟨fun _ => ⟨Or.inl rfl, hF hno m' em⟩, fun h => absurd (by decide) h⟩
  | succ n ih =>
    intro pr m' hpr em he hp hno
    have hpr34 : pr < 34 := by omega
    obtain ⟨hck, hcb⟩ := he pr hpr34
    have p44 : ∀ m2 : zm, m2.1 33 44 = nI pr → (zm_wI m2 33 44 ((m2.1 33 44) + 1)).1 33 44 = nI (pr + 1) := fun m2 h => by rw [pz_rI, if_pos ⟨rfl, rfl⟩, h, nI_1]
    have q50 : ∀ (m2 : zm) (x : Int32), pA m2 50 e → pA (zm_wI m2 33 44 x) 50 e := fun m2 x h k hk => by rw [pz_rI, if_neg (by omega)]; exact h k hk
    have none : (¬ (2 ≤ e pr ∧ g_sets e pr 34 0 0 0 = true)) → ∀ m2, eqF m m2 → pA m2 50 e → m2.1 33 44 = nI pr → j_Model_complete_L117 a1 a2 (j_Model_complete_L56 a1 a2 K (n + 1)) K (nI wd) 0 m2 := by
      intro h m2 em2 he2 hp2 m14 h14
      rw [h14]
      refine ih (pr + 1) _ (by omega) (s44 m2 em2 _) (q50 m2 _ he2) (p44 m2 hp2) (fun ⟨p, z1, z2⟩ => ?_)
      rcases Nat.lt_or_eq_of_le (Nat.lt_succ_iff.mp z1) with y | y
      · exact hno ⟨p, y, z2⟩
      · subst y; exact h z2
    rw [j_Model_complete_L56, hp]
    refine ⟨fun h => ?_, fun _ => ⟨fun z => absurd rfl z, fun _ => ?_⟩⟩
    · have h : 34 ≤ pr := (nI_leI (a := 34) (by omega) (by omega)).mp h
      omega
    · by_cases h2 : 2 ≤ e pr
      · refine ⟨2 ^ tix (dn e pr 2) 34 + 1, w_complete_L73 hpr34 h2 hwd hsum (fun hf m2 em2 he2 hp2 m14 h14 => ?_) (fun hf m2 em2 he2 hp2 => ?_) (2 ^ tix (dn e pr 2) 34) 0 m' (by omega) em he hp (fun mk h => by omega)⟩
        · have hg := (mask_iff h2 he6).mp hf
          have hk := hT ⟨pr, hpr34, h2, hg⟩ m14 (by rw [h14]; exact s44 m2 em2 _)
          rw [j_Model_complete_L56]
          exact ⟨fun _ => ⟨Or.inr rfl, hk⟩, fun _ => ⟨fun _ => ⟨Or.inr rfl, hk⟩, fun z => absurd z (by decide)⟩⟩
        · exact none (fun z => hf ((mask_iff h2 he6).mpr z.2)) m2 em2 he2 hp2
      · refine ⟨1, ?_⟩
        rw [j_Model_complete_L73, hp, nI_clamp (by omega), hck]
        refine ⟨pz_in hpr34 (by omega), fun _ => none (fun z => h2 z.1) m' em he hp, fun h => ?_⟩
        exact absurd ((nI_ltI (b := 2) (by omega) (by omega)).mpr (by omega)) h
theorem w_Model_complete {p w : Nat} {a2 : Int32} {c d a : Nat → Nat} {m : zm} {K : Int32 → zm → Prop} (hp : p < 4) (hr : rP m p c d w) (ha : ∀ k, k < 34 → a k ≤ 1 ∧ (nI k = a2 ↔ a k = 1)) (h6 : ∀ j, c j + a j < 6) (hsum : 3 * w + csum (fun k => c k + a k) 34 = 14)
    (hT : cmp_ (fun k => c k + a k) w → ∀ m', eqF m m' → K 1 m') (hF : ¬ cmp_ (fun k => c k + a k) w → ∀ m', eqF m m' → K 0 m') : j_Model_complete (nI p) a2 m K := by
  have hw := hr.2.1
  have hw4 := hr.2.2.1
  refine ⟨pz_in hp (by omega), fun y1 h1 => ?_⟩
  have e1 : y1 = nI (4 - w) := by rw [h1, nI_clamp (by omega), hw]; exact pk_sub (a := 4) hw4
  rw [e1]
  have e2 : (3 : Int32) * nI (4 - w) + 2 = nI (3 * (4 - w) + 2) := by rw [show (3 : Int32) = nI 3 from rfl, pk_mul]; exact nI_add _ 2
  refine w_Model_load hp hr ha (fun m2 em2 _ hA => ?_)
  rw [e2]
  have hs2 : csum (fun k => c k + a k) 34 = 3 * (4 - w) + 2 := by omega
  rw [hs2]
  refine ⟨fun _ => ?_, fun z => absurd rfl z⟩
  have setp : ∀ m3 : zm, eqF m m3 → pA m3 50 (fun k => c k + a k) → ∀ m8, m8 = zm_wI m3 33 44 0 → eqF m m8 ∧ pA m8 50 (fun k => c k + a k) ∧ m8.1 33 44 = nI 0 := by
    intro m3 e3 h3 m8 h8
    rw [h8]
    exact ⟨e3.w (Or.inr ⟨rfl, by omega⟩) _, fun k hk => by rw [pz_rI, if_neg (by omega)]; exact h3 k hk, by rw [pz_rI, if_pos ⟨rfl, rfl⟩]; rfl⟩
  have go0 : (¬ (w = 0 ∧ (n2_ (fun k => c k + a k) 34 = 7 ∨ ∀ k, k < 34 → (decide (0 < c k + a k)) = out_ k))) → ∀ m3, eqF m m3 → pA m3 50 (fun k => c k + a k) → j_Model_complete_L48 (nI p) a2 K (nI (4 - w)) m3 := by
    intro hn m3 e3 h3 m8 h8
    obtain ⟨e8, a8, p8⟩ := setp m3 e3 h3 m8 h8
    refine ⟨35, w_complete_L56 (m := m) (by omega) hs2 h6 (fun z m' em' => hT (Or.inr z) m' em') (fun z m' em' => hF (fun y => y.elim hn z) m' em') 34 0 m8 (by omega) e8 a8 p8 (fun ⟨q, z, _⟩ => by omega)⟩
  have go1 : cmp_ (fun k => c k + a k) w → ∀ m3, eqF m m3 → pA m3 50 (fun k => c k + a k) → j_Model_complete_L44 (nI p) a2 K (nI (4 - w)) m3 := by
    intro hn m3 e3 h3 m8 h8
    obtain ⟨e8, a8, p8⟩ := setp m3 e3 h3 m8 h8
    refine ⟨1, ?_⟩
    rw [j_Model_complete_L56]
    exact ⟨fun _ => ⟨Or.inr rfl, hT hn m8 e8⟩, fun _ => ⟨fun _ => ⟨Or.inr rfl, hT hn m8 e8⟩, fun z => absurd z (by decide)⟩⟩
  refine ⟨fun h => ?_, fun h => ?_⟩
  · have h : ¬ 4 - w = 4 := fun z => h (by rw [z]; rfl)
    exact go0 (fun z => by omega) m2 em2 hA
  · have h : 4 - w = 4 := (nI_eq (b := 4) (by omega) (by omega)).mp h
    have hw0 : w = 0 := by omega
    refine w_Model_isPairs hA (fun h7 => ⟨fun _ => go1 (Or.inl ⟨hw0, Or.inl h7⟩) m2 em2 hA, fun z => absurd z (by decide)⟩) (fun h7 => ⟨fun z => absurd rfl z, fun _ => w_Model_isOrphans hA (fun ho => ?_) (fun ho => ?_)⟩)
    · exact ⟨fun z => absurd z (by decide), fun _ => go1 (Or.inl ⟨hw0, Or.inr ho⟩) m2 em2 hA⟩
    · exact ⟨fun _ => go0 (fun z => z.2.elim h7 ho) m2 em2 hA, fun z => absurd rfl z⟩
theorem csum_ext {c c' : Nat → Nat} : ∀ {n}, (∀ j, j < n → c j = c' j) → csum c n = csum c' n
  | 0, _ => rfl
  | n + 1, h => by rw [csum, csum, csum_ext (fun j hj => h j (by omega)), h n (by omega)]
theorem upc_eq (c : Nat → Nat) (k : Nat) : (fun j => c j + (if j = k then 1 else 0)) = upc c k := by
  funext j; unfold upc; split <;> omega
theorem csum_upc {c : Nat → Nat} {k : Nat} : ∀ n, csum (upc c k) n = csum c n + (if k < n then 1 else 0)
  | 0 => by simp [csum]
  | n + 1 => by
    rw [csum, csum, csum_upc n]
    unfold upc
    by_cases h : n = k
    · subst h; simp; omega
    · rw [if_neg h]
      by_cases h2 : k < n
      · rw [if_pos h2, if_pos (by omega)]; omega
      · rw [if_neg h2, if_neg (by omega)]; omega
theorem w_Model_waitsOf {p w : Nat} {c d : Nat → Nat} {m : zm} {K : Int64 → zm → Prop} (hp : p < 4) (hr : rP m p c d w) (h5 : ∀ j, c j < 5) (hs : 3 * w + csum c 34 = 13 ∨ 3 * w + csum c 34 = 14) (hK : ∀ m', eqF m m' → K (lN (wm_ c d w)) m') : j_Model_waitsOf (nI p) m K := by
  have hc0 : (fun k => c k + (fun _ : Nat => 0) k) = c := by funext k; rfl
  refine w_Model_load (a := fun _ => 0) hp hr (fun k hk => ⟨Nat.zero_le _, ⟨fun z => ?_, fun z => absurd z (by decide)⟩⟩) (fun m1 em1 _ _ => ?_)
  · have h1 : (nI k).toInt = -1 := by rw [z]; decide
    rw [nI_toInt (by omega)] at h1
    omega
  · rw [hc0]
    have hbound : csum c 34 ≤ 14 := by omega
    have hrem : (nI (csum c 34) - nI (csum c 34) / 3 * 3 = 1) = (3 * w + csum c 34 = 13) := by
      rw [pz_rem3 (by omega)]
      refine (pz_eq (b := 1) (by omega) (by omega)).trans (propext ⟨fun z => ?_, fun z => ?_⟩) <;> omega
    by_cases h13 : 3 * w + csum c 34 = 13
    · have key : ∀ (n k : Nat) (m' : zm), k + n = 34 → eqF m m' → j_Model_waitsOf_L13 (nI p) K (n + 1) (lN (mk_ (fun k => bb (wait_ c d w k)) k)) (nI (csum c 34)) (nI k) m' := by
        intro n
        induction n with
        | zero =>
          intro k m' hk em
          have hk : k = 34 := by omega
          subst hk
          rw [j_Model_waitsOf_L13]
          refine ⟨fun _ => ?_, fun h => absurd (by decide) h⟩
          have := hK m' em
          unfold wm_ at this
          rw [if_pos h13] at this
          exact this
        | succ n ih =>
          intro k m' hk em
          have hk34 : k < 34 := by omega
          rw [j_Model_waitsOf_L13, hrem]
          have skip : ¬ wait_ c d w k → ∀ m2, eqF m m2 → j_Model_waitsOf_L56 (nI p) (j_Model_waitsOf_L13 (nI p) K (n + 1)) K (lN (mk_ (fun k => bb (wait_ c d w k)) k)) (nI (csum c 34)) (nI k) m2 := by
            intro hn m2 em2 y hy
            have ih1 := ih (k + 1) m2 (by omega) em2
            rw [mk_, if_neg (by rw [bb_f hn]; decide)] at ih1
            rw [hy, nI_1]
            exact ih1
          refine ⟨fun h => ?_, fun _ => ⟨fun z => absurd h13 z, fun _ => w_Model_held hp hk34 (hr.keep em) ⟨fun h4 => ?_, fun h4 => ?_⟩⟩⟩
          · have h : 34 ≤ k := (nI_leI (a := 34) (by omega) (by omega)).mp h
            omega
          · have hm := msum_le d k w
            have hw4 := hr.2.2.1
            have hck := h5 k
            have ho : own_ c d w k = c k + msum d k w := rfl
            have h4 : 4 ≤ own_ c d w k := (nI_leI (a := 4) (by omega) (by omega)).mp h4
            exact skip (fun z => by have := z.1; omega) m' em
          · have hm := msum_le d k w
            have hw4 := hr.2.2.1
            have hck := h5 k
            have ho : own_ c d w k = c k + msum d k w := rfl
            have h4 : ¬ 4 ≤ own_ c d w k := fun z => h4 ((nI_leI (a := 4) (by omega) (by omega)).mpr z)
            have hsu : 3 * w + csum (fun j => c j + (fun j => if j = k then 1 else 0) j) 34 = 14 := by
              rw [show (fun j => c j + (fun j => if j = k then 1 else 0) j) = upc c k from upc_eq c k, csum_upc, if_pos hk34]
              omega
            have heq : (fun j => c j + (fun j => if j = k then 1 else 0) j) = upc c k := upc_eq c k
            refine w_Model_complete (a := fun j => if j = k then 1 else 0) hp (hr.keep em) (fun j hj => ⟨by show (if j = k then 1 else 0) ≤ 1; split <;> omega, ?_⟩) (fun j => by have := h5 j; show c j + (if j = k then 1 else 0) < 6; split <;> omega) hsu (fun hc m2 em2 => ?_) (fun hc m2 em2 => ?_)
            · show nI j = nI k ↔ (if j = k then 1 else 0) = 1
              rw [pz_eq (by omega) (by omega)]
              constructor
              · intro z; rw [if_pos z]
              · intro z; exact Classical.byContradiction fun y => by rw [if_neg y] at z; exact absurd z (by decide)
            · rw [heq] at hc
              refine ⟨fun z => absurd z (by decide), fun _ y7 h7 y8 h8 => ?_⟩
              rw [h7, h8, nI_1, mk_or (by omega) (bb_t ⟨by omega, hc⟩)]
              exact ih (k + 1) m2 (by omega) (em.trans em2)
            · rw [heq] at hc
              exact ⟨fun _ => skip (fun z => hc z.2) m2 (em.trans em2), fun z => absurd rfl z⟩
      exact ⟨35, key 34 0 m1 rfl em1⟩
    · refine ⟨1, ?_⟩
      rw [j_Model_waitsOf_L13, hrem]
      refine ⟨fun h => absurd h (by decide), fun _ => ⟨fun _ => ?_, fun z => absurd z h13⟩⟩
      have := hK m1 em1
      unfold wm_ at this
      rw [if_neg h13] at this
      exact this
