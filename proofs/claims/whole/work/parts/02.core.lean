/-! The heap as a list of cells at places 0, 1, 2 ..: references are places; old arrays (the script, static tables) are references from zq_B on. -/
theorem zq_cl_ok : ∀ {ci : Nat} {C : String} {T : u_T} {N : Nat}, zq_cl[ci]? = some (C, T, N) → (∀ w ∈ u_ws C T N, w ∈ zq_ws) ∧ (∀ k, k < N → parseFieldDescriptor (T k).2.2.1 = some (zq_ft ci k)) ∧ (∀ a, a < N → ∀ b, b < N → a ≠ b → (T a).2.1 ≠ (T b).2.1)
  | 0, _, _, _, h => by cases h; exact ⟨zq_i_Table, zq_ok_Table, zq_n_Table⟩
  | 1, _, _, _, h => by cases h; exact ⟨zq_i_Wall, zq_ok_Wall, zq_n_Wall⟩
  | 2, _, _, _, h => by cases h; exact ⟨zq_i_Player, zq_ok_Player, zq_n_Player⟩
  | 3, _, _, _, h => by cases h; exact ⟨zq_i_Worth, zq_ok_Worth, zq_n_Worth⟩
  | 4, _, _, _, h => by cases h; exact ⟨zq_i_Judge, zq_ok_Judge, zq_n_Judge⟩
  | 5, _, _, _, h => by cases h; exact ⟨zq_i_Splitter, zq_ok_Splitter, zq_n_Splitter⟩
  | 6, _, _, _, h => by cases h; exact ⟨zq_i_Model, zq_ok_Model, zq_n_Model⟩
  | k + 7, _, _, _, h => by simp [zq_cl] at h
abbrev zq_E : Type := (Nat × vp_A) ⊕ (Nat × List Value)
abbrev zq_H : Type := List zq_E
def zq_B : Nat := 1099511627776
def zq_v (ad : Nat → Nat) : Value → Value
  | .ref a => .ref (ad a)
  | v => v
def zq_a (ad : Nat → Nat) (a : vp_A) : vp_A := (a.1, match a.2 with
  | .inl f => .inl f
  | .inr (.inl f) => .inr (.inl f)
  | .inr (.inr (.inl f)) => .inr (.inr (.inl f))
  | .inr (.inr (.inr (.inl f))) => .inr (.inr (.inr (.inl f)))
  | .inr (.inr (.inr (.inr f))) => .inr (.inr (.inr (.inr (fun j => (f j).map ad)))))
def zq_e (ad : Nat → Nat) (cls : Nat → ClassId) (q : Nat) : zq_E → va_E
  | .inl x => .inl (cls q, zq_a ad x.2)
  | .inr o => .inr (o.1, o.2.map (zq_v ad))
def zq_w (ad : Nat → Nat) (cls : Nat → ClassId) (h : zq_H) : va_W := h.mapIdx (fun q e => (ad q, zq_e ad cls q e))
theorem zq_w_get {ad : Nat → Nat} {cls : Nat → ClassId} {h : zq_H} {q : Nat} {e : zq_E} (hq : h[q]? = some e) : (zq_w ad cls h)[q]? = some (ad q, zq_e ad cls q e) := by
  simp [zq_w, List.getElem?_mapIdx, hq]
theorem zq_w_of {ad : Nat → Nat} {cls : Nat → ClassId} {h : zq_H} {q : Nat} {x : Nat × va_E} (hq : (zq_w ad cls h)[q]? = some x) : ∃ e, h[q]? = some e ∧ x = (ad q, zq_e ad cls q e) := by
  rw [zq_w, List.getElem?_mapIdx] at hq
  cases he : h[q]? with
  | none => rw [he] at hq; cases hq
  | some e => rw [he] at hq; exact ⟨e, rfl, (Option.some.inj hq).symm⟩
theorem zq_w_len {ad : Nat → Nat} {cls : Nat → ClassId} {h : zq_H} : (zq_w ad cls h).length = h.length := by simp [zq_w]
theorem zq_w_set {ad : Nat → Nat} {cls : Nat → ClassId} {h : zq_H} {q : Nat} {e : zq_E} : zq_w ad cls (h.set q e) = (zq_w ad cls h).set q (ad q, zq_e ad cls q e) := by
  apply List.ext_getElem?
  intro i
  simp only [zq_w, List.getElem?_mapIdx, List.getElem?_set, List.length_mapIdx]
  by_cases hi : q = i
  · subst hi
    simp only [if_pos]
    split <;> rfl
  · simp only [if_neg hi]
/-- a value whose reference is a cell of the heap, or an old array -/
def zq_ok (n : Nat) : Value → Prop
  | .ref a => a < n ∨ zq_B ≤ a
  | _ => True
def zq_okE (n : Nat) : zq_E → Prop
  | .inl x => match x.2.2 with
    | .inr (.inr (.inr (.inr f))) => ∀ (j y : Nat), f j = some y → y < n ∨ zq_B ≤ y
    | _ => True
  | .inr o => ∀ v ∈ o.2, zq_ok n v
def zq_okH (h : zq_H) : Prop := ∀ (q : Nat) (e : zq_E), h[q]? = some e → zq_okE h.length e
theorem zq_ok.mono {n n' : Nat} (hn : n ≤ n') {v : Value} (h : zq_ok n v) : zq_ok n' v := by
  cases v <;> first | trivial | exact h.elim (fun q => Or.inl (Nat.lt_of_lt_of_le q hn)) Or.inr
theorem zq_okE.mono {n n' : Nat} (hn : n ≤ n') {e : zq_E} (h : zq_okE n e) : zq_okE n' e := by
  match e, h with
  | .inl (t, m, .inl f), _ => trivial
  | .inl (t, m, .inr (.inl f)), _ => trivial
  | .inl (t, m, .inr (.inr (.inl f))), _ => trivial
  | .inl (t, m, .inr (.inr (.inr (.inl f)))), _ => trivial
  | .inl (t, m, .inr (.inr (.inr (.inr f)))), h => exact fun j y hy => (h j y hy).elim (fun q => Or.inl (Nat.lt_of_lt_of_le q hn)) Or.inr
  | .inr o, h => exact fun v hv => (h v hv).mono hn
/-- two ways to place, alike on what a heap of n cells can speak of -/
def zq_ag (n : Nat) (ad ad' : Nat → Nat) : Prop := ∀ a, a < n ∨ zq_B ≤ a → ad' a = ad a
theorem zq_ag.rf {n : Nat} {ad : Nat → Nat} : zq_ag n ad ad := fun _ _ => rfl
theorem zq_ag.trans {n n' : Nat} {ad ad1 ad2 : Nat → Nat} (hn : n ≤ n') (h1 : zq_ag n ad ad1) (h2 : zq_ag n' ad1 ad2) : zq_ag n ad ad2 :=
  fun a ha => (h2 a (ha.imp (fun q => Nat.lt_of_lt_of_le q hn) id)).trans (h1 a ha)
theorem zq_v_ag {n : Nat} {ad ad' : Nat → Nat} (h : zq_ag n ad ad') {v : Value} (hv : zq_ok n v) : zq_v ad' v = zq_v ad v := by
  cases v <;> first | rfl | exact congrArg Value.ref (h _ hv)
theorem zq_vs_ag {n : Nat} {ad ad' : Nat → Nat} (h : zq_ag n ad ad') : ∀ {st : List Value}, (∀ v ∈ st, zq_ok n v) → st.map (zq_v ad') = st.map (zq_v ad)
  | [], _ => rfl
  | v :: st, hs => by
    simp only [List.map_cons]
    rw [zq_v_ag h (hs v List.mem_cons_self), zq_vs_ag h (fun w hw => hs w (List.mem_cons_of_mem _ hw))]
theorem zq_e_ag {n : Nat} {ad ad' : Nat → Nat} {cls cls' : Nat → ClassId} (h : zq_ag n ad ad') {q : Nat} (hc : cls' q = cls q) {e : zq_E} (he : zq_okE n e) : zq_e ad' cls' q e = zq_e ad cls q e := by
  match e, he with
  | .inl (t, m, .inl f), _ => simp [zq_e, zq_a, hc]
  | .inl (t, m, .inr (.inl f)), _ => simp [zq_e, zq_a, hc]
  | .inl (t, m, .inr (.inr (.inl f))), _ => simp [zq_e, zq_a, hc]
  | .inl (t, m, .inr (.inr (.inr (.inl f)))), _ => simp [zq_e, zq_a, hc]
  | .inl (t, m, .inr (.inr (.inr (.inr f)))), he =>
    simp only [zq_e, zq_a, hc]
    congr 7
    funext j
    cases hj : f j with
    | none => rfl
    | some y => simp only [Option.map_some]; rw [h y (he j y hj)]
  | .inr o, he => simp only [zq_e]; rw [zq_vs_ag h he]
/-- a cell comes: its place is the heap's length -/
theorem zq_w_push {ad : Nat → Nat} {cls : Nat → ClassId} {h : zq_H} {a : Nat} {c : ClassId} {e : zq_E} (hok : zq_okH h) (hlen : h.length < zq_B) (x : va_E) (hx : zq_e (va_up ad h.length a) (va_up cls h.length c) h.length e = x) :
    zq_w (va_up ad h.length a) (va_up cls h.length c) (h ++ [e]) = zq_w ad cls h ++ [(a, x)] := by
  have hag : zq_ag h.length ad (va_up ad h.length a) := fun b hb => va_up_ne _ _ (by rcases hb with hb | hb <;> omega)
  apply List.ext_getElem?
  intro i
  by_cases hi : i < h.length
  · rw [List.getElem?_append_left (by rw [zq_w_len]; exact hi)]
    rw [zq_w, zq_w, List.getElem?_mapIdx, List.getElem?_mapIdx, List.getElem?_append_left hi]
    cases he : h[i]? with
    | none => rfl
    | some e' =>
      simp only [Option.map_some]
      rw [zq_e_ag hag (va_up_ne _ _ (by omega)) (hok i e' he), va_up_ne _ _ (by omega)]
  · by_cases hi2 : i = h.length
    · subst hi2
      rw [List.getElem?_append_right (by rw [zq_w_len]; exact Nat.le_refl _), zq_w_len, Nat.sub_self]
      rw [zq_w, List.getElem?_mapIdx, List.getElem?_append_right (Nat.le_refl _), Nat.sub_self]
      simp [va_up_self, hx]
    · rw [List.getElem?_eq_none (by rw [zq_w_len]; simp; omega), List.getElem?_eq_none (by simp [zq_w_len]; omega)]
/-! locals: a list of places -/
def zq_lv (ad : Nat → Nat) (L : List (Option Value)) : List (Nat × Value) := (L.mapIdx (fun i o => (i, o))).filterMap (fun x => x.2.map (fun v => (x.1, zq_v ad v)))
theorem zq_lv_mem {ad : Nat → Nat} {L : List (Option Value)} {q : Nat × Value} : q ∈ zq_lv ad L ↔ ∃ v, L[q.1]? = some (some v) ∧ q.2 = zq_v ad v := by
  constructor
  · intro h
    obtain ⟨x, hx, he⟩ := List.mem_filterMap.mp h
    obtain ⟨i, hi⟩ := List.getElem?_of_mem hx
    rw [List.getElem?_mapIdx] at hi
    cases ho : L[i]? with
    | none => rw [ho] at hi; cases hi
    | some o =>
      rw [ho] at hi
      cases hi
      cases o with
      | none => cases he
      | some v => cases he; exact ⟨v, ho, rfl⟩
  · rintro ⟨v, h1, h2⟩
    refine List.mem_filterMap.mpr ⟨(q.1, some v), List.mem_of_getElem? (i := q.1) (by rw [List.getElem?_mapIdx, h1]; rfl), ?_⟩
    simp only [Option.map_some]
    rw [← h2]
def zq_clr (L : List (Option Value)) : Nat → List (Option Value)
  | 0 => L
  | j + 1 => match L[j]? with
    | some (some (.long _)) => L.set j none
    | some (some (.double _)) => L.set j none
    | _ => L
def zq_set1 (L : List (Option Value)) (i : Nat) (v : Value) : List (Option Value) := (zq_clr L i).set i (some v)
def zq_set2 (L : List (Option Value)) (i : Nat) (v : Value) : List (Option Value) := ((zq_clr L i).set (i + 1) none).set i (some v)
theorem zq_clr_get {L : List (Option Value)} {i j : Nat} {v : Value} (h : (zq_clr L i)[j]? = some (some v)) : L[j]? = some (some v) ∧ (j + 1 = i → ¬ v.category = 2) := by
  cases i with
  | zero => exact ⟨h, fun q => by omega⟩
  | succ k =>
    by_cases hjk : j = k
    · subst hjk
      simp only [zq_clr] at h
      split at h
      · rename_i w hw
        rw [List.getElem?_set_self (List.getElem?_eq_some_iff.mp hw).1] at h
        cases h
      · rename_i w hw
        rw [List.getElem?_set_self (List.getElem?_eq_some_iff.mp hw).1] at h
        cases h
      · rename_i h1 h2
        refine ⟨h, fun _ hc => ?_⟩
        cases v with
        | long x => exact h1 x h
        | double x => exact h2 x h
        | _ => simp [Value.category] at hc
    · have hL : L[j]? = some (some v) := by
        simp only [zq_clr] at h
        split at h
        · rwa [List.getElem?_set_ne (Ne.symm hjk)] at h
        · rwa [List.getElem?_set_ne (Ne.symm hjk)] at h
        · exact h
      exact ⟨hL, fun q => by omega⟩
theorem zq_v_cat (ad : Nat → Nat) (v : Value) : (zq_v ad v).category = v.category := by cases v <;> rfl
theorem zq_has1 {ad : Nat → Nat} {L : List (Option Value)} {ls : Array Slot} {nL i : Nat} {v : Value} (h : lv_has ls nL ((i, zq_v ad v) :: (zq_lv ad L).filter (fun q => !(q.1 == i) && !(q.1 + 1 == i && q.2.category == 2)))) : lv_has ls nL (zq_lv ad (zq_set1 L i v)) := by
  refine ⟨h.1, h.2.1, fun q hq => h.2.2 q ?_⟩
  obtain ⟨w, h1, h2⟩ := zq_lv_mem.mp hq
  unfold zq_set1 at h1
  by_cases hi : i = q.1
  · subst hi
    have hlt : q.1 < (zq_clr L q.1).length := by
      have := (List.getElem?_eq_some_iff.mp h1).1
      simpa using this
    rw [List.getElem?_set_self hlt] at h1
    cases h1
    rw [← h2]
    exact List.mem_cons_self
  · rw [List.getElem?_set_ne hi] at h1
    obtain ⟨h3, h4⟩ := zq_clr_get h1
    refine List.mem_cons_of_mem _ (List.mem_filter.mpr ⟨zq_lv_mem.mpr ⟨w, h3, h2⟩, ?_⟩)
    simp only [Bool.and_eq_true, Bool.not_eq_true', beq_eq_false_iff_ne, ne_eq, Bool.and_eq_false_iff]
    refine ⟨fun e => hi e.symm, ?_⟩
    by_cases he : q.1 + 1 = i
    · exact Or.inr (by rw [h2, zq_v_cat]; exact h4 he)
    · exact Or.inl he
theorem zq_has2 {ad : Nat → Nat} {L : List (Option Value)} {ls : Array Slot} {nL i : Nat} {v : Value} (h : lv_has ls nL ((i, zq_v ad v) :: (zq_lv ad L).filter (fun q => !(q.1 == i) && (!(q.1 == i + 1) && !(q.1 + 1 == i && q.2.category == 2))))) : lv_has ls nL (zq_lv ad (zq_set2 L i v)) := by
  refine ⟨h.1, h.2.1, fun q hq => h.2.2 q ?_⟩
  obtain ⟨w, h1, h2⟩ := zq_lv_mem.mp hq
  unfold zq_set2 at h1
  by_cases hi : i = q.1
  · subst hi
    have hlt : q.1 < ((zq_clr L q.1).set (q.1 + 1) none).length := by
      have := (List.getElem?_eq_some_iff.mp h1).1
      simpa using this
    rw [List.getElem?_set_self hlt] at h1
    cases h1
    rw [← h2]
    exact List.mem_cons_self
  · rw [List.getElem?_set_ne hi] at h1
    by_cases hi1 : i + 1 = q.1
    · rw [← hi1, List.getElem?_set] at h1
      simp only [if_pos] at h1
      split at h1 <;> cases h1
    · rw [List.getElem?_set_ne hi1] at h1
      obtain ⟨h3, h4⟩ := zq_clr_get h1
      refine List.mem_cons_of_mem _ (List.mem_filter.mpr ⟨zq_lv_mem.mpr ⟨w, h3, h2⟩, ?_⟩)
      simp only [Bool.and_eq_true, Bool.not_eq_true', beq_eq_false_iff_ne, ne_eq, Bool.and_eq_false_iff]
      refine ⟨fun e => hi e.symm, fun e => hi1 e.symm, ?_⟩
      by_cases he : q.1 + 1 = i
      · exact Or.inr (by rw [h2, zq_v_cat]; exact h4 he)
      · exact Or.inl he
/-- a method's locals at its entry -/
def zq_ent : List Value → List (Option Value)
  | [] => []
  | .long x :: vs => some (.long x) :: none :: zq_ent vs
  | .double x :: vs => some (.double x) :: none :: zq_ent vs
  | v :: vs => some v :: zq_ent vs
theorem zq_ent_args {ad : Nat → Nat} : ∀ (vs : List Value) (off i : Nat) (v : Value), (zq_ent vs)[i]? = some (some v) → (off + i, zq_v ad v) ∈ lv_args off (vs.map (zq_v ad))
  | [], _, _, _, h => by simp [zq_ent] at h
  | w :: vs, off, i, v, h => by
    have key : (w.category = 2 ∧ zq_ent (w :: vs) = some w :: none :: zq_ent vs) ∨ (¬ w.category = 2 ∧ zq_ent (w :: vs) = some w :: zq_ent vs) := by
      cases w <;> first | exact Or.inl ⟨rfl, rfl⟩ | exact Or.inr ⟨by simp [Value.category], rfl⟩
    simp only [List.map_cons, lv_args]
    rcases key with ⟨hc, he⟩ | ⟨hc, he⟩
    · rw [he] at h
      rw [if_pos (by rw [zq_v_cat]; exact hc)]
      match i, h with
      | 0, h =>
        cases h
        exact List.mem_cons_self
      | 1, h => cases h
      | i + 2, h =>
        refine List.mem_cons_of_mem _ ?_
        have := zq_ent_args (ad := ad) vs (off + 2) i v (by simpa using h)
        rwa [show off + 2 + i = off + (i + 2) by omega] at this
    · rw [he] at h
      rw [if_neg (by rw [zq_v_cat]; exact hc)]
      match i, h with
      | 0, h =>
        cases h
        exact List.mem_cons_self
      | i + 1, h =>
        refine List.mem_cons_of_mem _ ?_
        have := zq_ent_args (ad := ad) vs (off + 1) i v (by simpa using h)
        rwa [show off + 1 + i = off + (i + 1) by omega] at this
def zq_pad (n : Nat) (L : List (Option Value)) : List (Option Value) := L ++ List.replicate (n - L.length) none
theorem zq_pad_get {n : Nat} {L : List (Option Value)} {i : Nat} {v : Value} (h : (zq_pad n L)[i]? = some (some v)) : L[i]? = some (some v) := by
  unfold zq_pad at h
  by_cases hi : i < L.length
  · rwa [List.getElem?_append_left hi] at h
  · rw [List.getElem?_append_right (by omega)] at h
    have := List.mem_of_getElem? h
    simp at this
theorem zq_entry {ad : Nat → Nat} {vs : List Value} {ls : Array Slot} {nL : Nat} (h : lv_has ls nL (lv_args 0 (vs.map (zq_v ad)))) : lv_has ls nL (zq_lv ad (zq_pad nL (zq_ent vs))) := by
  refine ⟨h.1, h.2.1, fun q hq => h.2.2 q ?_⟩
  obtain ⟨v, h1, h2⟩ := zq_lv_mem.mp hq
  have := zq_ent_args (ad := ad) vs 0 q.1 v (zq_pad_get h1)
  rw [Nat.zero_add, ← h2] at this
  exact this
