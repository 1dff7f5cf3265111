/-! RUNS ARE TAKEN -/
def rnS (S : zS) (p lo t n : Nat) : zS := (fun a j => if a = 1 ∧ 34 * p + lo ≤ j ∧ j < 34 * p + lo + n ∧ ¬ j = 34 * p + t then S.1 a j - 1 else S.1 a j, S.2)
theorem rn_1 (S : zS) (p lo t n a j : Nat) : (rnS S p lo t n).1 a j = if a = 1 ∧ 34 * p + lo ≤ j ∧ j < 34 * p + lo + n ∧ ¬ j = 34 * p + t then S.1 a j - 1 else S.1 a j := rfl
theorem rn_0 (S : zS) (p lo t : Nat) : rnS S p lo t 0 = S := by
  refine Prod.ext ?_ rfl
  funext a j
  rw [rn_1, if_neg (by omega)]
theorem rn_t (S : zS) {p lo t n : Nat} (h : lo + n = t) : rnS S p lo t (n + 1) = rnS S p lo t n := by
  refine Prod.ext ?_ rfl
  funext a j
  rw [rn_1, rn_1]
  by_cases q : a = 1 ∧ 34 * p + lo ≤ j ∧ j < 34 * p + lo + n ∧ ¬ j = 34 * p + t
  · rw [if_pos q, if_pos (by omega)]
  · rw [if_neg q, if_neg (by omega)]
theorem rn_s (S : zS) {p lo t n : Nat} (h : ¬ lo + n = t) : us (rnS S p lo t n) 1 (34 * p + (lo + n)) (S.1 1 (34 * p + (lo + n)) - 1) = rnS S p lo t (n + 1) := by
  refine Prod.ext ?_ rfl
  funext a j
  rw [us_1, rn_1, rn_1]
  by_cases e : a = 1 ∧ j = 34 * p + (lo + n)
  · rw [if_pos e, if_pos (by omega), e.1, e.2]
  · rw [if_neg e]
    by_cases q : a = 1 ∧ 34 * p + lo ≤ j ∧ j < 34 * p + lo + n ∧ ¬ j = 34 * p + t
    · rw [if_pos q, if_pos (by omega)]
    · rw [if_neg q, if_neg (by omega)]
theorem rn_f (S : zS) {p lo t n a : Nat} (h : ¬ a = 1) : (rnS S p lo t n).1 a = S.1 a := by
  funext j
  rw [rn_1, if_neg (fun z => h z.1)]
theorem rn_cf (S : zS) {p lo t r j : Nat} (hlo : lo + 2 < 34) (hj : j < 34) : cf (rnS S p lo t 3) r j = if r = p ∧ lo ≤ j ∧ j ≤ lo + 2 ∧ ¬ j = t then cf S r j - 1 else cf S r j := by
  rw [cf_at hj, cf_at hj, rn_1]
  by_cases q : r = p ∧ lo ≤ j ∧ j ≤ lo + 2 ∧ ¬ j = t
  · rw [if_pos q, if_pos (by omega)]
  · rw [if_neg q, if_neg (by omega)]
theorem Bd.rn {S : zS} (B : Bd S) (p lo t n : Nat) : Bd (rnS S p lo t n) := by
  intro a j ha
  rw [rn_1]
  have := B a j ha
  split <;> omega
theorem w_giveRest {p lo t : Nat} {m m0 : zm} {S : zS} {K : zm → Prop} (R : Rc m S m0) (B : Bd S) (hp : p < 4) (ht : til S = t) (h34 : t < 34) (h : hr S p lo) (k : ∀ m', Rc m' (rnS S p lo t 3) m0 → K m') : j_Player_giveRestOfRun (13 + 5 * p) (nI lo) (nI t) m K := by
  obtain ⟨h1, h2, h3, h4, h5⟩ := h
  rw [ht] at h3 h4
  have main : ∀ n i m, i + n = 3 → Rc m (rnS S p lo t i) m0 → j_Player_giveRestOfRun_L11 (13 + 5 * p) (nI lo) (nI t) K (n + 1) (nI (lo + i)) m := by
    intro n
    induction n with
    | zero =>
      intro i m hi R
      have e3 : i = 3 := by omega
      subst e3
      rw [j_Player_giveRestOfRun_L11, nI_2, pz_lt (by omega) (by omega)]
      exact ⟨fun _ => k m R, fun z => absurd (by omega) z⟩
    | succ n ih =>
      intro i m hi R
      have nx : ∀ m, Rc m (rnS S p lo t (i + 1)) m0 → j_Player_giveRestOfRun_L33 (13 + 5 * p) (nI lo) (nI t) (j_Player_giveRestOfRun_L11 (13 + 5 * p) (nI lo) (nI t) K (n + 1)) K (nI (lo + i)) m := by
        intro m R y hy
        rw [hy, nI_1]
        exact ih (i + 1) m (by omega) R
      have g : m.1 (13 + 5 * p + 1) (lo + i) = nI (S.1 1 (34 * p + (lo + i))) := by
        rw [R.g1 hp (by omega), rn_1, if_neg (by omega)]
      rw [j_Player_giveRestOfRun_L11, nI_2, pz_lt (by omega) (by omega), pz_eq (by omega) (by omega), nI_clamp (by omega), g]
      refine ⟨fun z => by omega, fun _ => ⟨fun e => nx m (by rw [rn_t S e]; exact R), fun e => ⟨pz_in (by omega) (by omega), pz_in (by omega) (by omega), ?_⟩⟩⟩
      have hc : ¬ cf S p (lo + i) = 0 := h5 (lo + i) (by omega) (by omega) (by rw [ht]; exact e)
      rw [cf_at (by omega)] at hc
      rw [nI_dec (by omega)]
      exact R.t1 hp (by omega) (fun m1 R => nx m1 (by rw [← rn_s S e]; exact R))
  refine w_hasRest R B hp ht h34 (fun _ => ?_) (fun z => absurd ⟨lo, rfl, h1, h2, by rw [ht]; exact h3, by rw [ht]; exact h4, h5⟩ z)
  exact ⟨fun z => absurd z (by decide), fun _ => ⟨4, main 3 0 m (by omega) (by rw [rn_0]; exact R)⟩⟩
theorem nI_3 (n : Nat) : nI n + 3 = nI (n + 3) := nI_add n 3
theorem w_runR {p lo t : Nat} {m m0 : zm} {S : zS} {K : zm → Prop} (R : Rr m S m0) (B : Bd S) (hp : p < 4) (ht : til S = t) (h27 : S.1 27 0 = t) (h34 : t < 34) (h : hr S p lo) (h6 : S.1 6 p = 0) (hw : S.1 2 p < 4) (k : ∀ m', Rr m' (lyS (mlS (rnS S p lo t 3) p lo 0) p) m0 → K m') : j_Model_call_L49 K (nI p) 0 (nI lo) m := by
  obtain ⟨h1, h2, h3, h4, h5⟩ := h
  rw [ht] at h3 h4
  have main : ∀ n i m, i + n = 3 → Rr m (rnS S p lo t i) m0 → j_Model_call_L53 K (n + 1) (nI p) 0 (nI lo) (nI (lo + i)) m := by
    intro n
    induction n with
    | zero =>
      intro i m hi R
      have e3 : i = 3 := by omega
      subst e3
      rw [j_Model_call_L53, nI_3, pz_le (by omega) (by omega)]
      refine ⟨fun _ => ?_, fun z => absurd (by omega) z⟩
      unfold j_Model_call_L100
      have g27 : m.1 33 24 = nI t := by rw [R.g27, rn_f S (by omega), h27]
      rw [g27, pz_34, nI_clamp (by omega), R.g1 hp h34]
      refine ⟨pz_in (by omega) (by omega), fun _ => ⟨fun _ => ?_, fun z => absurd z (by decide)⟩, fun z => absurd z (by decide)⟩
      have B3 := B.rn p lo t 3
      refine w_callR (f := 0) (d := 0) R hp t h34 rfl (by omega) (by rw [rn_f S (by omega)]; exact h6) (by rw [rn_f S (by omega)]; exact hw) (by omega) rfl B3 (fun _ m1 R => k m1 ?_) (fun z => by omega) (by omega)
      rw [Nat.sub_zero, us_id] at R
      exact R
    | succ n ih =>
      intro i m hi R
      have g27 : m.1 33 24 = nI t := by rw [R.g27, rn_f S (by omega), h27]
      have g : m.1 36 (34 * p + (lo + i)) = nI (S.1 1 (34 * p + (lo + i))) := by
        rw [R.g1 hp (by omega), rn_1, if_neg (by omega)]
      rw [j_Model_call_L53, nI_3, pz_le (by omega) (by omega), g27, pz_eq (by omega) (by omega), pz_34, nI_clamp (by omega), g]
      refine ⟨fun z => by omega, fun _ => ⟨fun z => absurd rfl z, fun _ => ⟨pz_in (by omega) (by omega), fun e => ?_, fun e => ?_⟩⟩⟩
      · have hc : ¬ cf S p (lo + i) = 0 := h5 (lo + i) (by omega) (by omega) (by rw [ht]; exact e)
        rw [cf_at (by omega)] at hc
        unfold j_Model_call_L92
        rw [nI_clamp (by omega), nI_dec (by omega)]
        refine ⟨pz_in (by omega) (by omega), R.t1 hp (by omega) (fun m1 R y hy => ?_)⟩
        rw [hy, nI_1]
        exact ih (i + 1) m1 (by omega) (by rw [← rn_s S e]; exact R)
      · unfold j_Model_call_L92
        rw [nI_clamp (by omega), show nI (S.1 1 (34 * p + (lo + i))) - 0 = nI (S.1 1 (34 * p + (lo + i))) from sb_136 (b := 0) (Nat.zero_le _)]
        refine ⟨pz_in (by omega) (by omega), R.t1 hp (by omega) (fun m1 R y hy => ?_)⟩
        rw [hy, nI_1]
        refine ih (i + 1) m1 (by omega) ?_
        rw [rn_t S e]
        have e2 : S.1 1 (34 * p + (lo + i)) = (rnS S p lo t i).1 1 (34 * p + (lo + i)) := by rw [rn_1, if_neg (by omega)]
        rw [e2, us_id] at R
        exact R
  exact ⟨4, main 3 0 m (by omega) (by rw [rn_0]; exact R)⟩
theorem csum_add {f g : Nat → Nat} : ∀ n, csum (fun k => f k + g k) n = csum f n + csum g n
  | 0 => rfl
  | n + 1 => by rw [csum, csum, csum, csum_add n]; omega
theorem cs_run : ∀ lo, lo < 25 → ∀ i, i < 3 → csum (fun k => if lo ≤ k ∧ k ≤ lo + 2 ∧ ¬ k = lo + i then 1 else 0) 34 = 2 := by decide +kernel
/-! HANDING OVER -/
theorem ne_m1 {p : Nat} (hp : p < 4) : ¬ nI p = nI 0 - 1 := by
  rcases (show p = 0 ∨ p = 1 ∨ p = 2 ∨ p = 3 by omega) with e | e | e | e <;> subst e <;> decide
theorem g9' {x t : Nat} (h : x = t + 1) : nI x - 1 = nI t := by rw [h, nI_pred]
theorem Wg.dr {S : zS} (G : Wg S) : Wg (drS S) := by
  obtain ⟨B, M, w, r, wc, p1, p2, p3, o⟩ := G
  have e := dr_1 S
  refine ⟨by intro a j ha; rw [e]; exact B a j ha, M.c (by rw [e]) (by rw [e]) (by rw [e]), w.c (dr_2 S (by omega)) (dr_2 S (by omega)) (by rw [dr_3]), r.c (by rw [e]) (by rw [e]) (by rw [e]) (by rw [e]) (by rw [e]) (by rw [e]) (by rw [dr_3]), fun k hk => ?_, by rw [e]; exact p1, by rw [e]; exact p2, by rw [e]; exact p3, by rw [e]; exact o⟩
  unfold wn
  rw [e]
  exact wc k hk
theorem an_3 {S : zS} {p : Nat} (h : an_ S p) (e : S.1 10 p = 3) : S.1 15 0 = 0 ∧ S.1 6 p = 0 ∧ 0 < lft S ∧ 3 ≤ cf S p (til S) ∧ S.1 17 0 < 4 := by
  unfold an_ at h
  rcases h with z | ⟨_, z | ⟨a, b, c, z | z | z⟩⟩
  · omega
  · omega
  · omega
  · omega
  · exact ⟨a, b, c, z.2.1, z.2.2⟩
theorem an_2 {S : zS} {p : Nat} (h : an_ S p) (e : S.1 10 p = 2) : S.1 15 0 = 0 ∧ S.1 6 p = 0 ∧ 0 < lft S ∧ 2 ≤ cf S p (til S) := by
  unfold an_ at h
  rcases h with z | ⟨_, z | ⟨a, b, c, z | z | z⟩⟩
  · omega
  · omega
  · omega
  · exact ⟨a, b, c, z.2⟩
  · omega
theorem an_1 {S : zS} {p : Nat} (h : an_ S p) (e : S.1 10 p = 1) : S.1 15 0 = 0 ∧ S.1 6 p = 0 ∧ 0 < lft S ∧ ∃ lo, S.2.1 32 p = nI lo ∧ hr S p lo := by
  unfold an_ at h
  rcases h with z | ⟨_, z | ⟨a, b, c, z | z | z⟩⟩
  · omega
  · omega
  · exact ⟨a, b, c, z.2.2⟩
  · omega
  · omega
theorem ask_1 {S : zS} {p : Nat} (hp : p < 4) (h : ¬ S.1 10 p = 0) : ¬ ask_ S = 0 := by
  unfold ask_
  rw [if_pos (bb_t ⟨p, hp, h⟩)]
  decide
theorem ask_0 {S : zS} (h : ∀ p, p < 4 → S.1 10 p = 0) : ask_ S = 0 := by
  unfold ask_
  rw [if_neg (fun z => by obtain ⟨p, h1, h2⟩ := bb_iff.mp z; exact h2 (h p h1))]
theorem cf_dn {S : zS} {p t v : Nat} (ht : t < 34) : cf (us S 1 (34 * p + t) v) p = upd_ (cf S p) t v := by
  rw [cf_1 S ht, if_pos rfl]
/-- how both hand over -/
def hoR (S : zS) (m : zm) (K : zm → Prop) : Prop := (ask_ S = 0 → j_Model_drawFor (((m.1 33 4) + 1) - ((m.1 33 4) + 1) / 4 * 4) m (fun m5 => K m5)) ∧ (¬ ask_ S = 0 → j_Model_call m (fun m6 => K m6))
theorem cin_1 (t j : Nat) : cin_ (4 * t + 1) j = if j = t then 3 else 0 := by
  unfold cin_
  rw [if_neg (by omega), show (4 * t + 1) / 4 = t by omega, if_pos (show (4 * t + 1) % 4 = 1 by omega)]
theorem cin_2 (t j : Nat) : cin_ (4 * t + 2) j = if j = t then 4 else 0 := by
  unfold cin_
  rw [if_neg (by omega), show (4 * t + 2) / 4 = t by omega, if_neg (show ¬ (4 * t + 2) % 4 = 1 by omega)]
theorem cin_3 (t j : Nat) : cin_ (4 * t + 3) j = if j = t then 4 else 0 := by
  unfold cin_
  rw [if_neg (by omega), show (4 * t + 3) / 4 = t by omega, if_neg (show ¬ (4 * t + 3) % 4 = 1 by omega)]
theorem cin_0 (t j : Nat) : cin_ (4 * t + 0) j = if t ≤ j ∧ j ≤ t + 2 then 1 else 0 := by
  unfold cin_
  rw [if_pos (by omega), show (4 * t + 0) / 4 = t by omega]
/-- n tiles t of p go into a meld -/
theorem ml_t {S : zS} {p t f n : Nat} (G : Wg S) (hp : p < 4) (h6 : S.1 6 p = 0) (hw : S.1 2 p < 4) (ht : t < 34) (hf : f < 4) (hf0 : ¬ f = 0) (hn : n ≤ S.1 1 (34 * p + t)) (hc : ∀ j, cin_ (4 * t + f) j = if j = t then n + 1 else 0) :
    Wg (mlS (us S 1 (34 * p + t) (S.1 1 (34 * p + t) - n)) p t f) ∧ (∀ j, j < 34 → tot (mlS (us S 1 (34 * p + t) (S.1 1 (34 * p + t) - n)) p t f) j = tot S j + (if j = t then 1 else 0)) ∧ (∀ r, r < 4 → ssm (mlS (us S 1 (34 * p + t) (S.1 1 (34 * p + t) - n)) p t f) r + (if r = p then n else 0) = ssm S r + (if r = p then 3 else 0)) ∧ rsm (mlS (us S 1 (34 * p + t) (S.1 1 (34 * p + t) - n)) p t f) = rsm S ∧ msm (mlS (us S 1 (34 * p + t) (S.1 1 (34 * p + t) - n)) p t f) = msm S + 1 ∧ (∀ j, rst (mlS (us S 1 (34 * p + t) (S.1 1 (34 * p + t) - n)) p t f) j = rst S j) := by
  have b1 := G.1.b1 (34 * p + t)
  have ec := cf_at (S := S) (p := p) ht
  refine ml_W (ind := fun j => if j = t then n else 0) G hp h6 hw ht hf (fun z => absurd z hf0) (G.1.u (show S.1 1 (34 * p + t) - n ≤ 4 by omega)) (fun a h => ?_) rfl (fun r _ h => ?_) (fun j hj => ?_) ?_ (fun j hj => ?_)
  · funext j
    rw [us_1, if_neg (fun z => h z.1)]
  · rw [cf_1 S ht, if_neg h]
  · rw [cf_dn ht]
    unfold upd_
    by_cases q : j = t
    · rw [if_pos q, if_pos q, q]; omega
    · rw [if_neg q, if_neg q]; rfl
  · rw [cf_dn ht]
    have := csum_upd (c := cf S p) (k := t) (v := S.1 1 (34 * p + t) - n) 34
    rw [if_pos ht, if_pos ht] at this
    omega
  · rw [hc]
    by_cases q : j = t
    · rw [if_pos q, if_pos q, if_pos q]
    · rw [if_neg q, if_neg q, if_neg q]
theorem ho_3 {S : zS} {p : Nat} (H : Wh S) (h28 : S.1 28 0 = 0) (hp : p < 4) (e : S.1 10 p = 3) : ∃ S', Wf S' ∧ Cst j_Table_handOver S S' ∧ Rst (hoR S) S S' := by
  have un : ∀ q, q < 4 → S.1 10 q = 3 → q = p := fun q hq eq => H.un (w := 3) (by omega) hq hp eq e
  have n14 := H.n14 hp (by omega)
  obtain ⟨G, s, tt, rv, h21, h27, an⟩ := H
  obtain ⟨h15, h6, hl, hc, hq⟩ := an_3 (an p hp) e
  have B := G.1
  have b21 := B.b21 0
  have h34 : til S < 34 := til_lt B h21
  have et : S.1 21 0 = til S + 1 := by unfold til; omega
  have b1 := B.b1 (34 * p + til S)
  have b2 := B.b2 p
  rw [cf_at h34] at hc
  have hw : S.1 2 p < 4 := by
    have h1 := s p hp
    have h2 := csum_ge (R := cf S p) (n := 34) (k := til S) h34
    rw [cf_at h34] at h2
    unfold ssm at h1
    omega
  have ml := ml_t (n := 3) (f := 2) G hp h6 hw h34 (by omega) (by omega) hc (fun j => cin_2 (til S) j)
  refine ⟨cqS (mlS (us S 1 (34 * p + til S) (S.1 1 (34 * p + til S) - 3)) p (til S) 2) p, ?_, ?_, ?_⟩
  · obtain ⟨G2, t2, s2, r2, m2, x2⟩ := ml
    have e20 : (mlS (us S 1 (34 * p + til S) (S.1 1 (34 * p + til S) - 3)) p (til S) 2).1 20 0 = S.1 20 0 := rfl
    have e17 : (mlS (us S 1 (34 * p + til S) (S.1 1 (34 * p + til S) - 3)) p (til S) 2).1 17 0 = S.1 17 0 := rfl
    refine Wf_cq G2 ⟨fun q hq' => ?_, fun k hk => ?_, ?_⟩ h28 ?_ hq hp
    · have h1 := s2 q hq'
      have h2 := s q hq'
      split at h1 <;> omega
    · rw [t2 k hk, x2]; exact tt k hk
    · rw [r2, m2, e20, e17]; omega
    · rw [e20, e17]
      unfold lft at hl
      omega
  · intro m m0 K R k
    unfold j_Table_handOver
    refine w_find1 (w := 3) R B (by omega) hp e un ⟨fun z => absurd z (by rw [show (-1 : Int32) = nI 0 - 1 from rfl]; exact ne_m1 hp), fun _ => ⟨pz_in hp (by omega), ?_⟩⟩
    have g9 : m.1 0 9 = nI (til S) := by rw [R.g21, et, nI_pred]
    rw [nI_clamp (by omega), g9, nI_clamp (by omega), R.g1 hp h34, show nI (S.1 1 (34 * p + til S)) - 3 = nI (S.1 1 (34 * p + til S) - 3) from sb_136 (b := 3) hc]
    refine ⟨pz_in h34 (by omega), pz_in h34 (by omega), R.t1 hp h34 (fun m1 R => ?_)⟩
    rw [show m1.1 0 9 = nI (til S) from by rw [R.g21]; exact g9' et]
    refine w_layDown (f := 2) R hp (B.u (show S.1 1 (34 * p + til S) - 3 ≤ 4 by omega)) h6 hw (fun m2 R => ?_) (by omega) h34
    refine w_completeQuad R (Bd.u (Bd.u (Bd.u ml.1.1 (show p ≤ 3 by omega)) (Nat.zero_le _)) (show 1 ≤ 4 by omega)) hp rfl hq (fun m3 R => k m3 ?_)
    rw [cq_ly] at R
    exact R
  · intro m m0 K R k
    refine ⟨fun z => absurd z (ask_1 hp (by omega)), fun _ => ?_⟩
    have go : j_Model_call_L20 (fun m6 => K m6) (nI p) 2 m := by
      unfold j_Model_call_L20 j_Model_call_L32
      refine ⟨fun _ => ⟨fun _ => ?_, fun z => absurd z (by decide)⟩, fun z => absurd (nI_pos' (by omega)) z⟩
      refine ⟨1, ?_⟩
      have g27 : m.1 33 24 = nI (til S) := by rw [R.g27, h27]
      have l100 : j_Model_call_L100 (fun m6 => K m6) (nI p) 2 (nI (til S)) m := by
        unfold j_Model_call_L100
        rw [g27, pz_34, nI_clamp (by omega), R.g1 hp h34]
        refine ⟨pz_in (by omega) (by omega), fun z => absurd rfl z, fun _ => ?_⟩
        refine w_callR (f := 2) (d := 3) R hp (til S) h34 rfl hc h6 hw h34 rfl B (fun z => absurd rfl z) (fun _ m1 R => ?_) (by omega)
        exact w_completeQuadR R ml.1.1 hp hq (fun m2 R => k m2 R)
      rw [g27, j_Model_call_L53, nI_3, pz_le (by omega) (by omega)]
      exact ⟨fun z => by omega, fun _ => ⟨fun _ => l100, fun z => absurd z (by decide)⟩⟩
    unfold j_Model_call
    refine w_answ1 (w := 3) R B (by omega) hp n14 e un ?_
    exact ⟨fun _ => go, fun z => absurd (nI_pos' (by omega)) z⟩
theorem ho_2 {S : zS} {p : Nat} (H : Wh S) (h28 : S.1 28 0 = 0) (n3 : ∀ q, q < 4 → ¬ S.1 10 q = 3) (hp : p < 4) (e : S.1 10 p = 2) : ∃ S', Wf S' ∧ Cst j_Table_handOver S S' ∧ Rst (hoR S) S S' := by
  have un : ∀ q, q < 4 → S.1 10 q = 2 → q = p := fun q hq eq => H.un (w := 2) (by omega) hq hp eq e
  have n14 := H.n14 hp (by omega)
  obtain ⟨G, s, tt, rv, h21, h27, an⟩ := H
  obtain ⟨h15, h6, hl, hc⟩ := an_2 (an p hp) e
  have B := G.1
  have b21 := B.b21 0
  have h34 : til S < 34 := til_lt B h21
  have et : S.1 21 0 = til S + 1 := by unfold til; omega
  have b1 := B.b1 (34 * p + til S)
  have b2 := B.b2 p
  rw [cf_at h34] at hc
  have hw : S.1 2 p < 4 := by
    have h1 := s p hp
    have h2 := csum_ge (R := cf S p) (n := 34) (k := til S) h34
    rw [cf_at h34] at h2
    unfold ssm at h1
    omega
  have ml := ml_t (n := 2) (f := 1) G hp h6 hw h34 (by omega) (by omega) hc (fun j => cin_1 (til S) j)
  refine ⟨lyS (mlS (us S 1 (34 * p + til S) (S.1 1 (34 * p + til S) - 2)) p (til S) 1) p, ?_, ?_, ?_⟩
  · obtain ⟨G2, t2, s2, r2, m2, x2⟩ := ml
    have e20 : (mlS (us S 1 (34 * p + til S) (S.1 1 (34 * p + til S) - 2)) p (til S) 1).1 20 0 = S.1 20 0 := rfl
    have e17 : (mlS (us S 1 (34 * p + til S) (S.1 1 (34 * p + til S) - 2)) p (til S) 1).1 17 0 = S.1 17 0 := rfl
    refine Wf_ly G2 hp (fun q hq' => ?_) (fun k hk => ?_) ?_ h28
    · have h1 := s2 q hq'
      have h2 := s q hq'
      split at h1
      · rename_i q1; rw [if_pos q1]; omega
      · rename_i q1; rw [if_neg q1]; omega
    · rw [t2 k hk, x2]; exact tt k hk
    · rw [r2, m2, e20, e17]; omega
  · intro m m0 K R k
    unfold j_Table_handOver
    refine w_findAnswer (w := 3) R B (by omega) (fun q hq eq => absurd eq (n3 q hq)) (fun _ => ⟨fun _ => ?_, fun z => absurd rfl z⟩)
    refine w_find1 (w := 2) R B (by omega) hp e un ⟨fun z => absurd z (by rw [show (-1 : Int32) = nI 0 - 1 from rfl]; exact ne_m1 hp), fun _ => ⟨pz_in hp (by omega), ?_⟩⟩
    have g9 : m.1 0 9 = nI (til S) := by rw [R.g21, et, nI_pred]
    rw [nI_clamp (by omega), g9, nI_clamp (by omega), R.g1 hp h34, show nI (S.1 1 (34 * p + til S)) - 2 = nI (S.1 1 (34 * p + til S) - 2) from sb_136 (b := 2) hc]
    refine ⟨pz_in h34 (by omega), pz_in h34 (by omega), R.t1 hp h34 (fun m1 R => ?_)⟩
    rw [show m1.1 0 9 = nI (til S) from by rw [R.g21]; exact g9' et]
    refine w_layDown (f := 1) R hp (B.u (show S.1 1 (34 * p + til S) - 2 ≤ 4 by omega)) h6 hw (fun m2 R => k m2 ?_) (by omega) h34
    exact (R.x 26 0 0 (fun _ h => h)).x 24 0 0 (fun _ h => h)
  · intro m m0 K R k
    refine ⟨fun z => absurd z (ask_1 hp (by omega)), fun _ => ?_⟩
    have go : j_Model_call_L20 (fun m6 => K m6) (nI p) 1 m := by
      unfold j_Model_call_L20 j_Model_call_L32
      refine ⟨fun _ => ⟨fun _ => ?_, fun z => absurd z (by decide)⟩, fun z => absurd (nI_pos' (by omega)) z⟩
      refine ⟨1, ?_⟩
      have g27 : m.1 33 24 = nI (til S) := by rw [R.g27, h27]
      have l100 : j_Model_call_L100 (fun m6 => K m6) (nI p) 1 (nI (til S)) m := by
        unfold j_Model_call_L100
        rw [g27, pz_34, nI_clamp (by omega), R.g1 hp h34]
        refine ⟨pz_in (by omega) (by omega), fun _ => ⟨fun z => absurd rfl z, fun _ => ?_⟩, fun z => absurd z (by decide)⟩
        exact w_callR (f := 1) (d := 2) R hp (til S) h34 rfl hc h6 hw h34 rfl B (fun _ m1 R => k m1 R) (fun z => by omega) (by omega)
      rw [g27, j_Model_call_L53, nI_3, pz_le (by omega) (by omega)]
      exact ⟨fun z => by omega, fun _ => ⟨fun _ => l100, fun z => absurd z (by decide)⟩⟩
    unfold j_Model_call
    refine w_answ0 (w := 3) R B (by omega) n3 ⟨fun z => absurd z (by decide), fun _ => ?_⟩
    exact w_answ1 (w := 2) R B (by omega) hp n14 e un go
theorem ho_1 {S : zS} {p : Nat} (H : Wh S) (h28 : S.1 28 0 = 0) (n3 : ∀ q, q < 4 → ¬ S.1 10 q = 3) (n2 : ∀ q, q < 4 → ¬ S.1 10 q = 2) (hp : p < 4) (e : S.1 10 p = 1) : ∃ S', Wf S' ∧ Cst j_Table_handOver S S' ∧ Rst (hoR S) S S' := by
  have un : ∀ q, q < 4 → S.1 10 q = 1 → q = p := fun q hq eq => H.un (w := 1) (by omega) hq hp eq e
  have n14 := H.n14 hp (by omega)
  obtain ⟨G, s, tt, rv, h21, h27, an⟩ := H
  obtain ⟨h15, h6, hl, lo, h32, hrr⟩ := an_1 (an p hp) e
  have B := G.1
  have b21 := B.b21 0
  have h34 : til S < 34 := til_lt B h21
  have et : S.1 21 0 = til S + 1 := by unfold til; omega
  have b2 := B.b2 p
  have r1 := hrr.1
  have r2 := hrr.2.1
  have r3 := hrr.2.2.1
  have r4 := hrr.2.2.2.1
  have r5 := hrr.2.2.2.2
  have cc : ∀ j, j < 34 → cf (rnS S p lo (til S) 3) p j + (if lo ≤ j ∧ j ≤ lo + 2 ∧ ¬ j = til S then 1 else 0) = cf S p j := by
    intro j hj
    rw [rn_cf S (by omega) hj]
    by_cases q : lo ≤ j ∧ j ≤ lo + 2 ∧ ¬ j = til S
    · rw [if_pos ⟨rfl, q⟩, if_pos q]
      have := r5 j q.1 q.2.1 q.2.2
      omega
    · rw [if_neg (fun z => q z.2), if_neg q]; rfl
  have cs : csum (cf (rnS S p lo (til S) 3) p) 34 + 2 = csum (cf S p) 34 := by
    have h1 := csum_add (f := cf (rnS S p lo (til S) 3) p) (g := fun j => if lo ≤ j ∧ j ≤ lo + 2 ∧ ¬ j = til S then 1 else 0) 34
    rw [csum_ext (c' := cf S p) (fun j hj => cc j hj)] at h1
    have h2 := cs_run lo (by omega) (til S - lo) (by omega)
    rw [show lo + (til S - lo) = til S by omega] at h2
    rw [h2] at h1
    exact h1.symm
  have hw : S.1 2 p < 4 := by
    have h1 := s p hp
    unfold ssm at h1
    omega
  have ml := ml_W (S := S) (S1 := rnS S p lo (til S) 3) (p := p) (k := lo) (f := 0) (t := til S) (n := 2) (ind := fun j => if lo ≤ j ∧ j ≤ lo + 2 ∧ ¬ j = til S then 1 else 0) G hp h6 hw (by omega) (by omega) (fun _ => ⟨r1, r2⟩) (B.rn p lo (til S) 3) (fun a h => rn_f S h) rfl (fun r _ h => by
    funext j
    by_cases hj : j < 34
    · rw [rn_cf S (by omega) hj, if_neg (fun z => h z.1)]
    · unfold cf; rw [if_neg hj, if_neg hj]) cc cs (fun j hj => by
    rw [cin_0]
    by_cases q : j = til S
    · rw [if_pos q, if_pos (by omega), if_neg (by omega)]
    · rw [if_neg q]
      by_cases q2 : lo ≤ j ∧ j ≤ lo + 2
      · rw [if_pos q2, if_pos ⟨q2.1, q2.2, q⟩]
      · rw [if_neg q2, if_neg (fun z => q2 ⟨z.1, z.2.1⟩)])
  refine ⟨lyS (mlS (rnS S p lo (til S) 3) p lo 0) p, ?_, ?_, ?_⟩
  · obtain ⟨G2, t2, s2, r2, m2, x2⟩ := ml
    have e20 : (mlS (rnS S p lo (til S) 3) p lo 0).1 20 0 = S.1 20 0 := rfl
    have e17 : (mlS (rnS S p lo (til S) 3) p lo 0).1 17 0 = S.1 17 0 := rfl
    refine Wf_ly G2 hp (fun q hq' => ?_) (fun k hk => ?_) ?_ h28
    · have h1 := s2 q hq'
      have h2 := s q hq'
      split at h1
      · rename_i q1; rw [if_pos q1]; omega
      · rename_i q1; rw [if_neg q1]; omega
    · rw [t2 k hk, x2]; exact tt k hk
    · rw [r2, m2, e20, e17]; omega
  · intro m m0 K R k
    unfold j_Table_handOver
    refine w_findAnswer (w := 3) R B (by omega) (fun q hq eq => absurd eq (n3 q hq)) (fun _ => ⟨fun _ => ?_, fun z => absurd rfl z⟩)
    refine w_findAnswer (w := 2) R B (by omega) (fun q hq eq => absurd eq (n2 q hq)) (fun _ => ⟨fun _ => ?_, fun z => absurd rfl z⟩)
    refine w_find1 (w := 1) R B (by omega) hp e un ⟨fun z => absurd z (by rw [show (-1 : Int32) = nI 0 - 1 from rfl]; exact ne_m1 hp), fun _ => ⟨pz_in hp (by omega), pz_in hp (by omega), ?_⟩⟩
    have g9 : m.1 0 9 = nI (til S) := by rw [R.g21, et, nI_pred]
    rw [nI_clamp (by omega), g9, R.g32 hp, h32]
    refine w_giveRest R B hp rfl h34 hrr (fun m1 R => ⟨pz_in hp (by omega), ?_⟩)
    rw [show m1.1 (13 + 5 * p) 12 = nI lo from by rw [R.g32 hp]; exact h32]
    refine w_layDown (f := 0) R hp (B.rn p lo (til S) 3) (by rw [rn_f S (by omega)]; exact h6) (by rw [rn_f S (by omega)]; exact hw) (fun m2 R => k m2 ?_) (by omega) (by omega)
    exact (R.x 26 0 0 (fun _ h => h)).x 24 0 0 (fun _ h => h)
  · intro m m0 K R k
    refine ⟨fun z => absurd z (ask_1 hp (by omega)), fun _ => ?_⟩
    have l32 : j_Model_call_L32 (fun m6 => K m6) (nI p) 0 m := by
      unfold j_Model_call_L32
      rw [nI_clamp (by omega), R.g32 hp, h32]
      refine ⟨fun z => absurd rfl z, fun _ => ⟨pz_in hp (by omega), ?_⟩⟩
      exact w_runR R B hp rfl h27 h34 hrr h6 hw (fun m1 R => k m1 R)
    unfold j_Model_call
    refine w_answ0 (w := 3) R B (by omega) n3 ⟨fun z => absurd z (by decide), fun _ => ?_⟩
    refine w_answ0 (w := 2) R B (by omega) n2 ⟨fun z => absurd z (by decide), fun _ => ?_⟩
    exact w_answ1 (w := 1) R B (by omega) hp n14 e un l32
theorem ho_0 {S : zS} (H : Wh S) (h28 : S.1 28 0 = 0) (n0 : ∀ q, q < 4 → S.1 10 q = 0) : ∃ S', Wf S' ∧ Cst j_Table_handOver S S' ∧ Rst (hoR S) S S' := by
  obtain ⟨G, s, tt, rv, h21, h27, an⟩ := H
  have B := G.1
  have M := G.2.1
  have b14 := B.b14 0
  have p2 := G.2.2.2.2.2.2.1
  have p3 := G.2.2.2.2.2.2.2.1
  have hlf : lft S ≤ 122 := by unfold lft; omega
  have none : ∀ (S' : zS), Cst (fun m K => (¬ nI (lft S) = 0 → j_Table_drawFor (((m.1 0 8) + 1) - ((m.1 0 8) + 1) / 4 * 4) m K) ∧ (nI (lft S) = 0 → j_Table_drawOut m K)) S S' → Cst j_Table_handOver S S' := by
    intro S' h m m0 K R k
    unfold j_Table_handOver
    refine w_findAnswer (w := 3) R B (by omega) (fun q hq eq => absurd (n0 q hq) (by omega)) (fun _ => ⟨fun _ => ?_, fun z => absurd rfl z⟩)
    refine w_findAnswer (w := 2) R B (by omega) (fun q hq eq => absurd (n0 q hq) (by omega)) (fun _ => ⟨fun _ => ?_, fun z => absurd rfl z⟩)
    refine w_findAnswer (w := 1) R B (by omega) (fun q hq eq => absurd (n0 q hq) (by omega)) (fun _ => ⟨fun _ => ?_, fun z => absurd rfl z⟩)
    exact w_countLeft R p2 (h m m0 K R k)
  by_cases hl : lft S = 0
  · refine ⟨ehS (drS S) (rdy S (S.1 12 0)) true, Wf_eh G.dr (fun p hp => by rw [ssm_c (S := S) (by rw [dr_1]) (by rw [dr_1])]; exact Or.inl (s p hp)), none _ ?_, ?_⟩
    · intro m m0 K R k
      rw [hl]
      exact ⟨fun z => absurd rfl z, fun _ => w_drawOut R B k⟩
    · intro m m0 K R k
      refine ⟨fun _ => ?_, fun z => absurd (ask_0 n0) z⟩
      unfold j_Model_drawFor
      refine w_left R p2 p3 ?_
      rw [hl]
      exact ⟨fun z => absurd rfl z, fun _ => w_drawnOut R B M (fun p hp => Or.inl (s p hp)) k⟩
  · have hl2 : S.1 20 0 + S.1 17 0 < 122 := by unfold lft at hl; omega
    refine ⟨dwS S ((S.1 14 0 + 1) % 4), Wf_dw G ⟨s, fun k hk => ?_, rv⟩ h28 hl2 (by omega), none _ ?_, ?_⟩
    · have := tt k hk; omega
    · intro m m0 K R k
      rw [pz_0 (by omega), R.g14, nI_1, pz_rem4 (by omega)]
      exact ⟨fun _ => w_drawFor R B (by omega) (by omega) k, fun z => absurd z hl⟩
    · intro m m0 K R k
      refine ⟨fun _ => ?_, fun z => absurd (ask_0 n0) z⟩
      rw [R.g14, nI_1, pz_rem4 (by omega)]
      exact w_drawForR R B (by omega) hl2 p3 k
theorem h_over {S : zS} (H : Wh S) (h28 : S.1 28 0 = 0) (n4 : ∀ p, p < 4 → ¬ S.1 10 p = 4) : ∃ S', Wf S' ∧ Cst j_Table_handOver S S' ∧ Rst (hoR S) S S' := by
  by_cases h3 : ∃ p, p < 4 ∧ S.1 10 p = 3
  · obtain ⟨p, hp, e⟩ := h3
    exact ho_3 H h28 hp e
  · have n3 : ∀ q, q < 4 → ¬ S.1 10 q = 3 := fun q hq eq => h3 ⟨q, hq, eq⟩
    by_cases h2 : ∃ p, p < 4 ∧ S.1 10 p = 2
    · obtain ⟨p, hp, e⟩ := h2
      exact ho_2 H h28 n3 hp e
    · have n2 : ∀ q, q < 4 → ¬ S.1 10 q = 2 := fun q hq eq => h2 ⟨q, hq, eq⟩
      by_cases h1 : ∃ p, p < 4 ∧ S.1 10 p = 1
      · obtain ⟨p, hp, e⟩ := h1
        exact ho_1 H h28 n3 n2 hp e
      · refine ho_0 H h28 (fun q hq => ?_)
        have b10 := H.1.1.b10 q
        have a1 := n3 q hq
        have a2 := n2 q hq
        have a3 := n4 q hq
        have a4 : ¬ S.1 10 q = 1 := fun z => h1 ⟨q, hq, z⟩
        omega
