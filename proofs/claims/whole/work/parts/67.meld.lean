/-! A TILE IS TAKEN -/
def Cst (J : zm → (zm → Prop) → Prop) (S S' : zS) : Prop := ∀ (m m0 : zm) (K : zm → Prop), Rc m S m0 → (∀ m', Rc m' S' m0 → K m') → J m K
def Rst (J : zm → (zm → Prop) → Prop) (S S' : zS) : Prop := ∀ (m m0 : zm) (K : zm → Prop), Rr m S m0 → (∀ m', Rr m' S' m0 → K m') → J m K
/-- claims are being settled -/
def Wh (S : zS) : Prop := Wg S ∧ (∀ p, p < 4 → ssm S p = 13) ∧ (∀ k, k < 34 → tot S k + (if k = til S then 1 else 0) + rst S k ≤ 4) ∧ rsm S ≤ S.1 20 0 - 52 + S.1 17 0 + msm S ∧ 0 < S.1 21 0 ∧ S.1 27 0 = til S ∧ ∀ p, p < 4 → an_ S p
theorem cf_tot {S : zS} {p k : Nat} (hp : p < 4) : cf S p k ≤ tot S k := by
  have h1 : cf S p k ≤ oS S p k := by unfold oS own_; omega
  have := oS_tot (S := S) (k := k) hp
  omega
theorem cf_tot2 {S : zS} {p q k : Nat} (hp : p < 4) (hq : q < 4) (h : ¬ p = q) : cf S p k + cf S q k ≤ tot S k := by
  have h1 : ∀ r, cf S r k ≤ oS S r k := fun r => by unfold oS own_; omega
  have a := h1 p
  have b := h1 q
  unfold tot
  rcases (show p = 0 ∨ p = 1 ∨ p = 2 ∨ p = 3 by omega) with e | e | e | e <;> subst e <;> rcases (show q = 0 ∨ q = 1 ∨ q = 2 ∨ q = 3 by omega) with e | e | e | e <;> subst e <;> first | omega | exact absurd rfl h
theorem til_lt {S : zS} (B : Bd S) (h : 0 < S.1 21 0) : til S < 34 := by
  have := B.b21 0
  unfold til; omega
/-- nobody answers as another does, but to win -/
theorem Wh.un {S : zS} (H : Wh S) {w p q : Nat} (hw : w = 1 ∨ w = 2 ∨ w = 3) (hp : p < 4) (hq : q < 4) (ep : S.1 10 p = w) (eq : S.1 10 q = w) : p = q := by
  have ht := til_lt H.1.1 H.2.2.2.2.1
  have hs := H.2.2.1 (til S) ht
  rw [if_pos rfl] at hs
  refine Classical.byContradiction (fun ne => ?_)
  have h2 := cf_tot2 (S := S) (k := til S) hp hq ne
  have ap := H.2.2.2.2.2.2 p hp
  have aq := H.2.2.2.2.2.2 q hq
  unfold an_ at ap aq
  rcases ap with z | ⟨_, z | ⟨_, _, _, z | z | z⟩⟩
  · omega
  · omega
  · rcases aq with y | ⟨_, y | ⟨_, _, _, y | y | y⟩⟩
    · omega
    · omega
    · omega
    · omega
    · omega
  · rcases aq with y | ⟨_, y | ⟨_, _, _, y | y | y⟩⟩ <;> omega
  · rcases aq with y | ⟨_, y | ⟨_, _, _, y | y | y⟩⟩ <;> omega
theorem Wh.n14 {S : zS} (H : Wh S) {p : Nat} (hp : p < 4) (h : ¬ S.1 10 p = 0) : ¬ p = S.1 14 0 := by
  have ap := H.2.2.2.2.2.2 p hp
  unfold an_ at ap
  rcases ap with z | ⟨z, _⟩
  · exact absurd z h
  · exact z
theorem w_find1 {w p : Nat} {m m0 : zm} {S : zS} {K : Int32 → zm → Prop} (R : Rc m S m0) (B : Bd S) (hw : w < 5) (hp : p < 4) (e : S.1 10 p = w) (un : ∀ q, q < 4 → S.1 10 q = w → q = p) (k : K (nI p) m) : j_Table_findAnswer (nI w) m K :=
  w_findAnswer R B hw (fun q h1 h2 => by rw [un q h1 h2]; exact k) (fun h => absurd e (h p hp))
theorem w_answ1 {w p : Nat} {m m0 : zm} {S : zS} {K : Int32 → zm → Prop} (R : Rr m S m0) (B : Bd S) (hw : w < 5) (hp : p < 4) (h14 : ¬ p = S.1 14 0) (e : S.1 10 p = w) (un : ∀ q, q < 4 → S.1 10 q = w → q = p) (k : K (nI p) m) : j_Model_answered (nI w) m K := by
  have b14 := B.b14 0
  refine w_answered R B hw (fun d h1 h2 h3 _ => by rw [un _ (by omega) h3]; exact k) (fun h => ?_)
  refine absurd ?_ (h ((p + 4 - S.1 14 0) % 4) (by omega) (by omega))
  rw [show (S.1 14 0 + (p + 4 - S.1 14 0) % 4) % 4 = p by omega]
  exact e
theorem w_answ0 {w : Nat} {m m0 : zm} {S : zS} {K : Int32 → zm → Prop} (R : Rr m S m0) (B : Bd S) (hw : w < 5) (h : ∀ p, p < 4 → ¬ S.1 10 p = w) (k : K (-1) m) : j_Model_answered (nI w) m K :=
  w_answered R B hw (fun d _ _ h3 _ => absurd h3 (h _ (by omega))) (fun _ => k)
/-! what the meld leaves -/
def mlS (S1 : zS) (p k f : Nat) : zS := us (ncS (amS S1 p k f)) 8 p 0
theorem ml_f {S1 : zS} {p k f a : Nat} (h : ¬ (a = 3 ∨ a = 2 ∨ a = 22 ∨ a = 23 ∨ a = 7 ∨ a = 16 ∨ a = 8)) : (mlS S1 p k f).1 a = S1.1 a := by
  funext j
  unfold mlS
  rw [us_1, if_neg (by omega), nc_f _ a (by omega) (by omega), am_f S1 p k f a (by omega)]
theorem am_tot (S : zS) {p k f j : Nat} (hp : p < 4) (hw : ∀ q, S.1 2 q ≤ 4) (hp4 : S.1 2 p < 4) : tot (amS S p k f) j = tot S j + cin_ (4 * k + f) j := by
  have := tot4 (S := S) (T := amS S p k f) (p := p) (k := j) (x := 0) (y := cin_ (4 * k + f) j) hp (by rw [am_own S hw hp4, if_pos rfl]; rfl) (fun r _ hr => by rw [am_own S hw hp4, if_neg hr]; rfl)
  omega
theorem ml_W {S S1 : zS} {p k f t n : Nat} {ind : Nat → Nat} (G : Wg S) (hp : p < 4) (h6 : S.1 6 p = 0) (hw : S.1 2 p < 4) (hk : k < 34) (hf : f < 4) (hr : f = 0 → k < 27 ∧ k % 9 ≤ 6)
    (B1 : Bd S1) (e1 : ∀ a, ¬ a = 1 → S1.1 a = S.1 a) (e2 : S1.2 = S.2) (c0 : ∀ r, r < 4 → ¬ r = p → cf S1 r = cf S r) (c1 : ∀ j, j < 34 → cf S1 p j + ind j = cf S p j) (cs : csum (cf S1 p) 34 + n = csum (cf S p) 34) (ci : ∀ j, j < 34 → cin_ (4 * k + f) j = ind j + (if j = t then 1 else 0)) :
    Wg (mlS S1 p k f) ∧ (∀ j, j < 34 → tot (mlS S1 p k f) j = tot S j + (if j = t then 1 else 0)) ∧ (∀ r, r < 4 → ssm (mlS S1 p k f) r + (if r = p then n else 0) = ssm S r + (if r = p then 3 else 0)) ∧ rsm (mlS S1 p k f) = rsm S ∧ msm (mlS S1 p k f) = msm S + 1 ∧ (∀ j, rst (mlS S1 p k f) j = rst S j) := by
  obtain ⟨B, M, w, r, wc, p1, p2, p3, o⟩ := G
  have hw1 : S1.1 2 p < 4 := by rw [e1 2 (by omega)]; exact hw
  have m1 : ∀ a, ¬ (a = 3 ∨ a = 2 ∨ a = 22 ∨ a = 23 ∨ a = 7 ∨ a = 16 ∨ a = 8 ∨ a = 1) → (mlS S1 p k f).1 a = S.1 a := fun a h => by rw [ml_f (by omega), e1 a (by omega)]
  have x2 : (mlS S1 p k f).1 2 = (amS S1 p k f).1 2 := by
    funext j
    unfold mlS
    rw [us_1, if_neg (by omega), nc_f _ 2 (by omega) (by omega)]
  have x3 : (mlS S1 p k f).1 3 = (amS S1 p k f).1 3 := by
    funext j
    unfold mlS
    rw [us_1, if_neg (by omega), nc_f _ 3 (by omega) (by omega)]
  have x1 : (mlS S1 p k f).1 1 = (amS S1 p k f).1 1 := by rw [ml_f (by omega), am_f S1 p k f 1 (by omega)]
  have x22 : (mlS S1 p k f).1 22 = (amS S1 p k f).1 22 := by
    funext j
    unfold mlS
    rw [us_1, if_neg (by omega), nc_f _ 22 (by omega) (by omega)]
  have x23 : (mlS S1 p k f).1 23 = (amS S1 p k f).1 23 := by
    funext j
    unfold mlS
    rw [us_1, if_neg (by omega), nc_f _ 23 (by omega) (by omega)]
  have y2 : ∀ r, (mlS S1 p k f).1 2 r = if r = p then S.1 2 p + 1 else S.1 2 r := fun r => by rw [x2, am_2, e1 2 (by omega)]
  have M1 : Mk S1 := M.c (e1 3 (by omega)) (e1 22 (by omega)) (e1 23 (by omega))
  have yy : (mlS S1 p k f).2 = S.2 := e2
  have ow : ∀ r j, r < 4 → j < 34 → oS S1 r j + (if r = p then ind j else 0) = oS S r j := fun r j hr hj => by
    unfold oS own_
    rw [mf_c (e1 3 (by omega)), e1 2 (by omega)]
    by_cases q : r = p
    · subst q
      rw [if_pos rfl]
      have := c1 j hj
      omega
    · rw [if_neg q, c0 r hr q]; rfl
  refine ⟨⟨?_, (M1.am hf hr).c x3 x22 x23, w.c (by rw [yy]) (by rw [yy]) (by rw [yy]), fun r' hr' => ?_, fun j hj => ?_, ?_, ?_, ?_, fun q hq => ?_⟩, fun j hj => ?_, fun r' hr' => ?_, ?_, ?_, fun j => ?_⟩
  · exact Bd.u (Bd.nc (B1.am hf hk hw1)) (Nat.zero_le _)
  · obtain ⟨a1, a2, a3⟩ := r r' hr'
    refine ⟨?_, fun z => ?_, fun z => ?_⟩
    · rw [df_c (m1 4 (by omega)) (m1 5 (by omega)), yy]; exact a1
    · rw [m1 6 (by omega)] at z
      have hne : ¬ r' = p := fun q => by rw [q] at z; exact z h6
      have := a2 z
      intro i hi
      rw [y2, if_neg hne] at hi
      have b2 := B.b2 r'
      have := this i hi
      unfold mf at this ⊢
      rw [x3, am_3, e1 3 (by omega), if_neg (by omega)]
      exact this
    · exfalso
      rw [show (mlS S1 p k f).1 7 r' = 0 from by unfold mlS; rw [us_1, if_neg (by omega)]; exact nc_7 _ hr'] at z
      omega
  · unfold wn; rw [m1 0 (by omega)]; exact wc j hj
  · rw [m1 20 (by omega)]; exact p1
  · rw [m1 20 (by omega), m1 17 (by omega)]; exact p2
  · rw [m1 20 (by omega), m1 25 (by omega)]; exact p3
  · rw [m1 9 (by omega)]; exact o q hq
  · rw [tot_c x1 x2 x3, am_tot S1 hp (fun q => by rw [e1 2 (by omega)]; exact B.b2 q) hw1, ci j hj]
    have := tot4 (S := S1) (T := S) (p := p) (k := j) (x := 0) (y := ind j) hp (by have := ow p j hp hj; rw [if_pos rfl] at this; omega) (fun r hr hne => by have := ow r j hr hj; rw [if_neg hne] at this; omega)
    omega
  · unfold ssm
    rw [y2, cf_c x1, cf_c (am_f S1 p k f 1 (by omega))]
    by_cases q : r' = p
    · subst q
      rw [if_pos rfl, if_pos rfl, if_pos rfl]
      omega
    · rw [if_neg q, if_neg q, if_neg q, c0 r' hr' q]
  · unfold rsm; rw [m1 4 (by omega)]
  · unfold msm
    rw [y2, y2, y2, y2]
    rcases (show p = 0 ∨ p = 1 ∨ p = 2 ∨ p = 3 by omega) with e | e | e | e <;> subst e <;> simp <;> omega
  · unfold rst wn; rw [m1 0 (by omega), m1 17 (by omega), m1 20 (by omega)]
/-! a call without a quad: the turn goes to p -/
def lyS (Y : zS) (p : Nat) : zS := us (us (us (us (us Y 14 0 p) 21 0 0) 11 0 1) 26 0 0) 24 0 0
theorem ly_f {Y : zS} {p a : Nat} (h : ¬ (a = 14 ∨ a = 21 ∨ a = 11 ∨ a = 26 ∨ a = 24)) : (lyS Y p).1 a = Y.1 a := by
  funext j
  unfold lyS
  rw [us_1, us_1, us_1, us_1, us_1, if_neg (by omega), if_neg (by omega), if_neg (by omega), if_neg (by omega), if_neg (by omega)]
theorem Wf_ly {Y : zS} {p : Nat} (G : Wg Y) (hp : p < 4) (s : ∀ r, r < 4 → ssm Y r = if r = p then 14 else 13) (ht : ∀ k, k < 34 → tot Y k + rst Y k ≤ 4) (hv : rsm Y + 1 ≤ Y.1 20 0 - 52 + Y.1 17 0 + msm Y) (h28 : Y.1 28 0 = 0) : Wf (lyS Y p) := by
  obtain ⟨B, M, w, r, wc, p1, p2, p3, o⟩ := G
  have f : ∀ a, ¬ (a = 14 ∨ a = 21 ∨ a = 11 ∨ a = 26 ∨ a = 24) → (lyS Y p).1 a = Y.1 a := fun a h => ly_f h
  have e11 : (lyS Y p).1 11 0 = 1 := rfl
  have ss : ∀ r, r < 4 → ssm (lyS Y p) r = if r = p then 14 else 13 := fun r hr => by rw [ssm_c (f 1 (by omega)) (f 2 (by omega))]; exact s r hr
  refine ⟨?_, M.c (f 3 (by omega)) (f 22 (by omega)) (f 23 (by omega)), w.c rfl rfl rfl, r.c (f 2 (by omega)) (f 3 (by omega)) (f 4 (by omega)) (f 5 (by omega)) (f 6 (by omega)) (f 7 (by omega)) rfl, ⟨fun j hj => ?_, by rw [f 20 (by omega)]; exact p1, by rw [f 20 (by omega), f 17 (by omega)]; exact p2, fun _ => by rw [f 25 (by omega), f 20 (by omega)]; exact p3, fun z => by rw [e11] at z; omega⟩, fun _ r hr => ?_, fun _ r hr => ?_, fun _ => ⟨fun r hr => ss r hr, fun j hj => ?_, ?_, rfl, fun z => absurd z (by show ¬ 0 < 0; omega), ?_⟩, fun z => by rw [e11] at z; omega⟩
  · unfold lyS
    exact Bd.u (Bd.u (Bd.u (Bd.u (Bd.u B (show p ≤ 3 by omega)) (Nat.zero_le _)) (show 1 ≤ 4 by omega)) (Nat.zero_le _)) (Nat.zero_le _)
  · unfold wn; rw [f 0 (by omega)]; exact wc j hj
  · have := ss r hr
    split at this <;> omega
  · rw [f 9 (by omega)]; exact o r hr
  · rw [tot_c (f 1 (by omega)) (f 2 (by omega)) (f 3 (by omega))]
    have : rst (lyS Y p) j = rst Y j := by unfold rst wn; rw [f 0 (by omega), f 17 (by omega), f 20 (by omega)]
    rw [this]; exact ht j hj
  · unfold rsm msm at *
    rw [f 4 (by omega), f 2 (by omega), f 20 (by omega), f 17 (by omega)]
    exact hv
  · rw [f 28 (by omega)]; exact h28
theorem w_layDown {p k f : Nat} {m m0 : zm} {S1 : zS} {K : zm → Prop} (R : Rc m S1 m0) (hp : p < 4) (B : Bd S1) (h6 : S1.1 6 p = 0) (hw : S1.1 2 p < 4) (kk : ∀ m', Rc m' (us (us (us (mlS S1 p k f) 14 0 p) 21 0 0) 11 0 1) m0 → K m') (hf : f < 4) (hk : k < 34) : j_Table_layDown (nI p) (nI k) (nI f) m K := by
  unfold j_Table_layDown
  rw [nI_clamp (by omega)]
  refine ⟨pz_in hp (by omega), w_addMeld R hp hw (fun m1 R => ⟨pz_in hp (by omega), w_forget R (B.am hf hk hw) hp (fun m2 R => ?_)⟩)⟩
  rw [am_f S1 p k f 6 (by omega), if_pos h6] at R
  refine w_noteCall R (fun m3 R => R.t14 (fun m4 R => R.t21n (fun m5 R => R.t11 (v := 1) (fun m6 R => kk m6 ?_))))
  rw [nc_us _ (by omega) (by omega)] at R
  exact R
/-- the rest of the reference's call -/
theorem w_callR {p k f c d : Nat} {x : Int32} {m m0 : zm} {S : zS} {K : zm → Prop} (R : Rr m S m0) (hp : p < 4) (t : Nat) (ht : t < 34) (hc : S.1 1 (34 * p + t) = c) (hd : d ≤ c) (h6 : S.1 6 p = 0) (hw : S.1 2 p < 4) (hk : k < 34) (hx : x = nI f) (B : Bd S)
    (kT : ¬ f = 2 → ∀ m', Rr m' (lyS (mlS (us S 1 (34 * p + t) (c - d)) p k f) p) m0 → K m') (kQ : f = 2 → ∀ m', Rr m' (mlS (us S 1 (34 * p + t) (c - d)) p k f) m0 → j_Model_completeQuad (nI p) m' K) (hf : f < 3) : j_Model_call_L134 K (nI p) x (nI k) (nI d) (nI c) (nI (34 * p + t)) m := by
  have b8 := B.b8 p
  subst hx
  unfold j_Model_call_L134
  rw [sb_136 hd, nI_clamp (by omega)]
  refine ⟨pz_in (by omega) (by omega), R.t1 hp ht (fun m1 R => w_lay R hp hw (fun m2 R => w_stopEarly R (fun m3 R => ?_)))⟩
  have g6 : m3.1 42 p = nI 0 := by rw [R.g6 hp, nc_f _ 6 (by omega) (by omega), am_f _ p k f 6 (by omega)]; exact congrArg nI h6
  have l174 : j_Model_call_L174 K (nI p) (nI f) (nI p) m3 := by
    unfold j_Model_call_L174 j_Model_call_L175
    rw [nI_clamp (by omega), show (2 : Int32) = nI 2 from rfl, pz_eq (by omega) (by omega)]
    refine ⟨pz_in hp (by omega), Or.inl rfl, R.t8 hp (v := 0) (fun m4 R => ⟨fun h => ?_, fun h => kQ h m4 R⟩)⟩
    refine R.t14 (fun m5 R => R.t26n (fun m6 R => R.t24 (v := 0) (fun m7 R => R.t11 (v := 1) (fun m8 R => kT h m8 ?_))))
    have R := R.x 21 0 0 (fun _ h => h)
    refine Eq.mp (congrArg (fun T => Rr m8 T m0) ?_) R
    unfold lyS
    show us (us (us (us (us (mlS (us S 1 (34 * p + t) (c - d)) p k f) 14 0 p) 26 0 0) 24 0 0) 11 0 1) 21 0 0 = _
    refine Prod.ext ?_ rfl
    funext a j
    simp only [us_1]
    by_cases h0 : a = 14
    · subst h0; first | (simp; done) | (by_cases hj : j = 0 <;> simp [hj])
    by_cases h1 : a = 26
    · subst h1; first | (simp; done) | (by_cases hj : j = 0 <;> simp [hj])
    by_cases h2 : a = 24
    · subst h2; first | (simp; done) | (by_cases hj : j = 0 <;> simp [hj])
    by_cases h3 : a = 11
    · subst h3; first | (simp; done) | (by_cases hj : j = 0 <;> simp [hj])
    by_cases h4 : a = 21
    · subst h4; first | (simp; done) | (by_cases hj : j = 0 <;> simp [hj])
    simp [h0, h1, h2, h3, h4]
  rw [nI_clamp (by omega), g6]
  refine ⟨pz_in hp (by omega), fun _ => l174, fun _ => ⟨pz_in hp (by omega), fun _ => l174, fun z => absurd (by decide) z⟩⟩
theorem cq_ly (Y : zS) (p : Nat) : cqS (us (us (us Y 14 0 p) 21 0 0) 11 0 1) p = cqS Y p := by
  unfold cqS
  rw [nc_us _ (by omega) (by omega), nc_us _ (by omega) (by omega), nc_us _ (by omega) (by omega)]
  unfold gvS
  show us (us (us (us (us (us (us (us (us (us (us (us (ncS Y) 14 0 p) 21 0 0) 11 0 1) 17 0 (Y.1 17 0 + 1)) 14 0 p) 21 0 (Y.1 0 (135 - Y.1 17 0) + 1)) 1 (34 * p + Y.1 0 (135 - Y.1 17 0)) ((ncS Y).1 1 (34 * p + Y.1 0 (135 - Y.1 17 0)) + 1)) 8 p (if (ncS Y).1 6 p = 0 then 0 else (ncS Y).1 8 p)) 11 0 1) 18 0 1) 24 0 1) 26 0 (Y.1 0 (135 - Y.1 17 0) + 1) = us (us (us (us (us (us (us (us (us (ncS Y) 17 0 (Y.1 17 0 + 1)) 14 0 p) 21 0 (Y.1 0 (135 - Y.1 17 0) + 1)) 1 (34 * p + Y.1 0 (135 - Y.1 17 0)) ((ncS Y).1 1 (34 * p + Y.1 0 (135 - Y.1 17 0)) + 1)) 8 p (if (ncS Y).1 6 p = 0 then 0 else (ncS Y).1 8 p)) 11 0 1) 18 0 1) 24 0 1) 26 0 (Y.1 0 (135 - Y.1 17 0) + 1)
  refine Prod.ext ?_ rfl
  funext a j
  simp only [us_1]
  by_cases h0 : a = 14
  · subst h0; first | (simp; done) | (by_cases hj : j = 0 <;> simp [hj])
  by_cases h1 : a = 21
  · subst h1; first | (simp; done) | (by_cases hj : j = 0 <;> simp [hj])
  by_cases h2 : a = 11
  · subst h2; first | (simp; done) | (by_cases hj : j = 0 <;> simp [hj])
  by_cases h3 : a = 17
  · subst h3; first | (simp; done) | (by_cases hj : j = 0 <;> simp [hj])
  by_cases h4 : a = 1
  · subst h4; first | (simp; done) | (by_cases hj : j = 0 <;> simp [hj])
  by_cases h5 : a = 8
  · subst h5; first | (simp; done) | (by_cases hj : j = 0 <;> simp [hj])
  by_cases h6 : a = 18
  · subst h6; first | (simp; done) | (by_cases hj : j = 0 <;> simp [hj])
  by_cases h7 : a = 24
  · subst h7; first | (simp; done) | (by_cases hj : j = 0 <;> simp [hj])
  by_cases h8 : a = 26
  · subst h8; first | (simp; done) | (by_cases hj : j = 0 <;> simp [hj])
  simp [h0, h1, h2, h3, h4, h5, h6, h7, h8]
