/-! THE MEMORY: 56 cells of a fixed shape (the table 0 .. 32, the reference 33 .. 55): ints m.1 q j, longs m.2 q j -/
abbrev zm : Type := (Nat → Nat → Int32) × (Nat → Nat → Int64)
def zm_wI (m : zm) (q j : Nat) (x : Int32) : zm := (fun a b => if a = q ∧ b = j then x else m.1 a b, m.2)
def zm_wL (m : zm) (q j : Nat) (x : Int64) : zm := (m.1, fun a b => if a = q ∧ b = j then x else m.2 a b)
def zm_f_Table : List Value := [.ref 11, .ref 1, .ref 2, .int 0, .int 0, .int 0, .int 0, .int 0, .int 0, .int 0, .int 0, .int 0, .int 0, .int 0]
def zm_f_Wall : List Value := [.ref 12, .int 0, .int 0, .int 0]
def zm_f_Player (q : Nat) : List Value := [.ref (q + 1), .ref (q + 2), .int 0, .ref (q + 3), .int 0, .long 0, .int 0, .int 0, .int 0, .int 0, .int 0, .int 0, .int 0, .ref (q + 4)]
def zm_f_Worth : List Value := [.int 0, .int 0, .int 0, .int 0, .long 0]
def zm_f_Judge : List Value := [.ref 3, .ref 7, .ref 8, .int 0, .int 0, .int 0, .int 0, .int 0, .int 0, .int 0, .int 0, .long 0, .int 0, .ref 9, .ref 10]
def zm_f_Splitter : List Value := [.ref 4, .ref 5, .int 0, .int 0, .ref 6, .int 0]
def zm_f_Model : List Value := [.ref 34, .int 0, .int 0, .int 0, .int 0, .int 0, .int 0, .int 0, .int 0, .ref 35, .ref 36, .ref 37, .ref 38, .ref 39, .ref 40, .ref 41, .int 0, .int 0, .int 0, .int 0, .ref 42, .ref 43, .ref 44, .int 0, .int 0, .int 0, .int 0, .ref 45, .ref 46, .ref 47, .ref 48, .ref 49, .int 0, .int 0, .int 0, .int 0, .ref 50, .ref 51, .ref 52, .int 0, .int 0, .ref 53, .ref 54, .ref 55, .int 0, .int 0, .int 0, .int 0, .int 0, .long 0]
def zm_sh : List zq_E := [.inr (0, zm_f_Table), .inl (3, 4, .inr (.inr (.inr (.inr (fun j => if j < 4 then some (13 + 5 * j) else none))))), .inr (4, zm_f_Judge), .inr (5, zm_f_Splitter), .inl (0, 34, .inl (fun _ => 0)), .inl (0, 4, .inl (fun _ => 0)), .inl (0, 40, .inl (fun _ => 0)), .inl (0, 34, .inl (fun _ => 0)), .inl (0, 4, .inl (fun _ => 0)), .inr (3, zm_f_Worth), .inr (3, zm_f_Worth), .inr (1, zm_f_Wall), .inl (0, 136, .inl (fun _ => 0)), .inr (2, zm_f_Player 13), .inl (0, 34, .inl (fun _ => 0)), .inl (0, 4, .inl (fun _ => 0)), .inl (0, 96, .inl (fun _ => 0)), .inr (3, zm_f_Worth), .inr (2, zm_f_Player 18), .inl (0, 34, .inl (fun _ => 0)), .inl (0, 4, .inl (fun _ => 0)), .inl (0, 96, .inl (fun _ => 0)), .inr (3, zm_f_Worth), .inr (2, zm_f_Player 23), .inl (0, 34, .inl (fun _ => 0)), .inl (0, 4, .inl (fun _ => 0)), .inl (0, 96, .inl (fun _ => 0)), .inr (3, zm_f_Worth), .inr (2, zm_f_Player 28), .inl (0, 34, .inl (fun _ => 0)), .inl (0, 4, .inl (fun _ => 0)), .inl (0, 96, .inl (fun _ => 0)), .inr (3, zm_f_Worth), .inr (6, zm_f_Model), .inl (0, 136, .inl (fun _ => 0)), .inl (0, 4, .inl (fun _ => 0)), .inl (0, 136, .inl (fun _ => 0)), .inl (0, 4, .inl (fun _ => 0)), .inl (0, 16, .inl (fun _ => 0)), .inl (0, 16, .inl (fun _ => 0)), .inl (0, 4, .inl (fun _ => 0)), .inl (0, 400, .inl (fun _ => 0)), .inl (0, 4, .inl (fun _ => 0)), .inl (2, 4, .inl (fun _ => 0)), .inl (2, 4, .inl (fun _ => 0)), .inl (0, 4, .inl (fun _ => 0)), .inl (0, 4, .inl (fun _ => 0)), .inl (0, 4, .inl (fun _ => 0)), .inl (0, 16, .inl (fun _ => 0)), .inl (1, 4, .inr (.inl (fun _ => 0))), .inl (0, 34, .inl (fun _ => 0)), .inl (0, 34, .inl (fun _ => 0)), .inl (0, 34, .inl (fun _ => 0)), .inl (0, 8, .inl (fun _ => 0)), .inl (0, 8, .inl (fun _ => 0)), .inl (2, 8, .inl (fun _ => 0))]
def zm_iv (m : zm) (q j : Nat) : Value → Value
  | .int _ => .int (m.1 q j)
  | .long _ => .long (m.2 q j)
  | v => v
def zm_i (m : zm) (q : Nat) : zq_E → zq_E
  | .inl (t, n, .inl _) => .inl (t, n, .inl (fun j => m.1 q j))
  | .inl (t, n, .inr (.inl _)) => .inl (t, n, .inr (.inl (fun j => m.2 q j)))
  | .inl x => .inl x
  | .inr (ci, fs) => .inr (ci, fs.mapIdx (fun j v => zm_iv m q j v))
/-- held shut: nothing unfolds it by accident -/
noncomputable def zm_bx : { f : zm → zq_H // ∀ m, f m = zm_sh.mapIdx (fun q e => zm_i m q e) } := Classical.choice ⟨⟨fun m => zm_sh.mapIdx (fun q e => zm_i m q e), fun _ => rfl⟩⟩
noncomputable def zm_hp (m : zm) : zq_H := zm_bx.1 m
set_option maxHeartbeats 60000 in
theorem zm_hp_eq (m : zm) : zm_hp m = zm_sh.mapIdx (fun q e => zm_i m q e) := zm_bx.2 m
set_option maxHeartbeats 60000 in
theorem zm_at {m : zm} {q : Nat} {e : zq_E} (h : zm_sh[q]? = some e) : (zm_hp m)[q]? = some (zm_i m q e) := by
  rw [zm_hp_eq, List.getElem?_mapIdx, h]; rfl
set_option maxHeartbeats 60000 in
theorem zm_other {m m' : zm} {q : Nat} (h1 : ∀ a b, a ≠ q → m'.1 a b = m.1 a b) (h2 : ∀ a b, a ≠ q → m'.2 a b = m.2 a b) {e : zq_E} (he : ∀ e0, zm_sh[q]? = some e0 → zm_i m' q e0 = e) : (zm_hp m).set q e = zm_hp m' := by
  apply List.ext_getElem?
  intro i
  rw [List.getElem?_set]
  simp only [zm_hp_eq, List.getElem?_mapIdx, List.length_mapIdx]
  by_cases hi : q = i
  · subst hi
    simp only [if_pos]
    by_cases hl : q < zm_sh.length
    · rw [if_pos hl]
      have h3 : zm_sh[q]? = some zm_sh[q] := List.getElem?_eq_getElem hl
      rw [h3]
      simp only [Option.map_some]
      rw [he _ h3]
    · rw [if_neg hl, List.getElem?_eq_none (by omega)]
      rfl
  · rw [if_neg hi]
    cases hz : zm_sh[i]? with
    | none => rfl
    | some e0 =>
      simp only [Option.map_some]
      congr 1
      match e0 with
      | .inl (t, n, .inl f) => simp only [zm_i]; congr 4; funext j; rw [h1 i j (Ne.symm hi)]
      | .inl (t, n, .inr (.inl f)) => simp only [zm_i]; congr 5; funext j; rw [h2 i j (Ne.symm hi)]
      | .inl (t, n, .inr (.inr x)) => rfl
      | .inr (ci, fs) =>
        simp only [zm_i]
        congr 2
        apply List.ext_getElem?
        intro j
        simp only [List.getElem?_mapIdx]
        cases fs[j]? with
        | none => rfl
        | some v => simp only [Option.map_some]; cases v <;> simp [zm_iv, h1 i j (Ne.symm hi), h2 i j (Ne.symm hi)]
set_option maxHeartbeats 60000 in
theorem zm_setI {m : zm} {q ci j : Nat} {fs : List Value} {y x : Int32} (hs : zm_sh[q]? = some (.inr (ci, fs))) (ht : fs[j]? = some (.int y)) : (zm_hp m).set q (.inr (ci, (fs.mapIdx (fun j v => zm_iv m q j v)).set j (.int x))) = zm_hp (zm_wI m q j x) := by
  have h1 : ∀ a b, a ≠ q → (zm_wI m q j x).1 a b = m.1 a b := fun a b h => by simp [zm_wI, h]
  have h2 : ∀ a b, a ≠ q → (zm_wI m q j x).2 a b = m.2 a b := fun a b h => by simp [zm_wI]
  refine zm_other (m := m) (m' := zm_wI m q j x) (q := q) h1 h2 ?_
  intro e0 h0
  rw [hs] at h0
  cases h0
  simp only [zm_i]
  congr 2
  apply List.ext_getElem?
  intro i
  rw [List.getElem?_set]
  simp only [List.getElem?_mapIdx, List.length_mapIdx]
  by_cases hi : j = i
  · subst hi
    rw [ht, if_pos rfl, if_pos (List.getElem?_eq_some_iff.mp ht).1]
    simp [zm_iv, zm_wI]
  · rw [if_neg hi]
    cases fs[i]? with
    | none => rfl
    | some v => simp only [Option.map_some]; cases v <;> simp [zm_iv, zm_wI, Ne.symm hi]
set_option maxHeartbeats 60000 in
theorem zm_setL {m : zm} {q ci j : Nat} {fs : List Value} {y x : Int64} (hs : zm_sh[q]? = some (.inr (ci, fs))) (ht : fs[j]? = some (.long y)) : (zm_hp m).set q (.inr (ci, (fs.mapIdx (fun j v => zm_iv m q j v)).set j (.long x))) = zm_hp (zm_wL m q j x) := by
  have h1 : ∀ a b, a ≠ q → (zm_wL m q j x).1 a b = m.1 a b := fun a b h => by simp [zm_wL]
  have h2 : ∀ a b, a ≠ q → (zm_wL m q j x).2 a b = m.2 a b := fun a b h => by simp [zm_wL, h]
  refine zm_other (m := m) (m' := zm_wL m q j x) (q := q) h1 h2 ?_
  intro e0 h0
  rw [hs] at h0
  cases h0
  simp only [zm_i]
  congr 2
  apply List.ext_getElem?
  intro i
  rw [List.getElem?_set]
  simp only [List.getElem?_mapIdx, List.length_mapIdx]
  by_cases hi : j = i
  · subst hi
    rw [ht, if_pos rfl, if_pos (List.getElem?_eq_some_iff.mp ht).1]
    simp [zm_iv, zm_wL]
  · rw [if_neg hi]
    cases fs[i]? with
    | none => rfl
    | some v => simp only [Option.map_some]; cases v <;> simp [zm_iv, zm_wL, Ne.symm hi]
set_option maxHeartbeats 60000 in
theorem zm_setA {m : zm} {q t n i : Nat} {f : Nat → Int32} {x : Int32} (hs : zm_sh[q]? = some (.inl (t, n, .inl f))) : (zm_hp m).set q (.inl (t, n, .inl (upd (fun j => m.1 q j) i x))) = zm_hp (zm_wI m q i x) := by
  have h1 : ∀ a b, a ≠ q → (zm_wI m q i x).1 a b = m.1 a b := fun a b h => by simp [zm_wI, h]
  have h2 : ∀ a b, a ≠ q → (zm_wI m q i x).2 a b = m.2 a b := fun a b h => by simp [zm_wI]
  refine zm_other (m := m) (m' := zm_wI m q i x) (q := q) h1 h2 ?_
  intro e0 h0
  rw [hs] at h0
  cases h0
  simp only [zm_i]
  congr 4
  funext j
  simp [zm_wI, upd]
set_option maxHeartbeats 60000 in
theorem zm_setB {m : zm} {q t n i : Nat} {f : Nat → Int64} {x : Int64} (hs : zm_sh[q]? = some (.inl (t, n, .inr (.inl f)))) : (zm_hp m).set q (.inl (t, n, .inr (.inl (vp_updL (fun j => m.2 q j) i x)))) = zm_hp (zm_wL m q i x) := by
  have h1 : ∀ a b, a ≠ q → (zm_wL m q i x).1 a b = m.1 a b := fun a b h => by simp [zm_wL]
  have h2 : ∀ a b, a ≠ q → (zm_wL m q i x).2 a b = m.2 a b := fun a b h => by simp [zm_wL, h]
  refine zm_other (m := m) (m' := zm_wL m q i x) (q := q) h1 h2 ?_
  intro e0 h0
  rw [hs] at h0
  cases h0
  simp only [zm_i]
  congr 5
  funext j
  simp [zm_wL, vp_updL]
def zm_isB (x : Int32) : Prop := x = 0 ∨ x = 1
set_option maxHeartbeats 60000 in
theorem zm_isB.nar {x : Int32} (h : zm_isB x) : narrow .boolean (.int x) = .int x := by rcases h with rfl | rfl <;> rfl
set_option maxHeartbeats 60000 in
theorem zm_isB.fit {x : Int32} (h : zm_isB x) : fits .boolean (.int x) = true := by rcases h with rfl | rfl <;> rfl
set_option maxHeartbeats 60000 in
theorem zm_isB.vp {x : Int32} (h : zm_isB x) : vp_nar .boolean x = x := by rcases h with rfl | rfl <;> rfl
section ZMR
variable {G : zq_G} {F : zq_C} {k n pc : Nat} {L : List (Option Value)} {st : List Value} {m : zm} {Q : Option Value → zq_H → Prop}
set_option maxHeartbeats 60000 in
theorem zm_ivs {fs : List Value} {q j : Nat} {v : Value} (h : fs[j]? = some v) : (fs.mapIdx (fun j v => zm_iv m q j v))[j]? = some (zm_iv m q j v) := by rw [List.getElem?_mapIdx, h]; rfl
set_option maxHeartbeats 60000 in
theorem zm_getI {idx ci j q : Nat} {fs : List Value} {y : Int32} (hf : zq_FG F.1 idx ci j) (hd : decode F.2.1 pc = .ok (.getfield idx, 3)) (hs : zm_sh[q]? = some (.inr (ci, fs))) (ht : fs[j]? = some (.int y)) (kk : zq_V G F k n (pc + 3) L (.int (m.1 q j) :: st) (zm_hp m) Q) : zq_V G F k n pc L (.ref q :: st) (zm_hp m) Q := zq_get hf hd (zm_at hs) (zm_ivs ht) kk
set_option maxHeartbeats 60000 in
theorem zm_getL {idx ci j q : Nat} {fs : List Value} {y : Int64} (hf : zq_FG F.1 idx ci j) (hd : decode F.2.1 pc = .ok (.getfield idx, 3)) (hs : zm_sh[q]? = some (.inr (ci, fs))) (ht : fs[j]? = some (.long y)) (kk : zq_V G F k n (pc + 3) L (.long (m.2 q j) :: st) (zm_hp m) Q) : zq_V G F k n pc L (.ref q :: st) (zm_hp m) Q := zq_get hf hd (zm_at hs) (zm_ivs ht) kk
set_option maxHeartbeats 60000 in
theorem zm_getR {idx ci j q y : Nat} {fs : List Value} (hf : zq_FG F.1 idx ci j) (hd : decode F.2.1 pc = .ok (.getfield idx, 3)) (hs : zm_sh[q]? = some (.inr (ci, fs))) (ht : fs[j]? = some (.ref y)) (kk : zq_V G F k n (pc + 3) L (.ref y :: st) (zm_hp m) Q) : zq_V G F k n pc L (.ref q :: st) (zm_hp m) Q := zq_get hf hd (zm_at hs) (zm_ivs ht) kk
set_option maxHeartbeats 60000 in
theorem zm_putI {idx ci j q : Nat} {fs : List Value} {y x : Int32} (hf : zq_FL F.1 idx ci j false) (hd : decode F.2.1 pc = .ok (.putfield idx, 3)) (hs : zm_sh[q]? = some (.inr (ci, fs))) (ht : fs[j]? = some (.int y)) (hy : zq_ft ci j = .int) (kk : zq_V G F k n (pc + 3) L st (zm_hp (zm_wI m q j x)) Q) : zq_V G F k n pc L (.int x :: .ref q :: st) (zm_hp m) Q :=
  zq_put hf hd (zm_at hs) (by rw [List.length_mapIdx]; exact (List.getElem?_eq_some_iff.mp ht).1) (by rw [hy]; rfl) (by rw [hy]; rfl) (by rw [zm_setI hs ht]; exact kk)
set_option maxHeartbeats 60000 in
theorem zm_putZ {idx ci j q : Nat} {fs : List Value} {y x : Int32} (hf : zq_FL F.1 idx ci j false) (hd : decode F.2.1 pc = .ok (.putfield idx, 3)) (hs : zm_sh[q]? = some (.inr (ci, fs))) (ht : fs[j]? = some (.int y)) (hy : zq_ft ci j = .boolean) (hb : zm_isB x) (kk : zq_V G F k n (pc + 3) L st (zm_hp (zm_wI m q j x)) Q) : zq_V G F k n pc L (.int x :: .ref q :: st) (zm_hp m) Q :=
  zq_put hf hd (zm_at hs) (by rw [List.length_mapIdx]; exact (List.getElem?_eq_some_iff.mp ht).1) (by rw [hy]; exact hb.nar) (by rw [hy]; exact hb.fit) (by rw [zm_setI hs ht]; exact kk)
set_option maxHeartbeats 60000 in
theorem zm_putL {idx ci j q : Nat} {fs : List Value} {y x : Int64} (hf : zq_FL F.1 idx ci j false) (hd : decode F.2.1 pc = .ok (.putfield idx, 3)) (hs : zm_sh[q]? = some (.inr (ci, fs))) (ht : fs[j]? = some (.long y)) (hy : zq_ft ci j = .long) (kk : zq_V G F k n (pc + 3) L st (zm_hp (zm_wL m q j x)) Q) : zq_V G F k n pc L (.long x :: .ref q :: st) (zm_hp m) Q :=
  zq_put hf hd (zm_at hs) (by rw [List.length_mapIdx]; exact (List.getElem?_eq_some_iff.mp ht).1) (by rw [hy]; rfl) (by rw [hy]; rfl) (by rw [zm_setL hs ht]; exact kk)
set_option maxHeartbeats 60000 in
theorem zm_ald {q n0 : Nat} {f : Nat → Int32} {i : Int32} (hd : decode F.2.1 pc = .ok (.iaload, 1)) (hs : zm_sh[q]? = some (.inl (0, n0, .inl f))) (hin : vp_in i n0) (kk : zq_V G F k n (pc + 1) L (.int (m.1 q i.toNatClampNeg) :: st) (zm_hp m) Q) : zq_V G F k n pc L (.int i :: .ref q :: st) (zm_hp m) Q := zq_iaload hd (zm_at hs) hin kk
set_option maxHeartbeats 60000 in
theorem zm_zld {q n0 : Nat} {f : Nat → Int32} {i : Int32} (hd : decode F.2.1 pc = .ok (.baload, 1)) (hs : zm_sh[q]? = some (.inl (2, n0, .inl f))) (hin : vp_in i n0) (kk : zq_V G F k n (pc + 1) L (.int (m.1 q i.toNatClampNeg) :: st) (zm_hp m) Q) : zq_V G F k n pc L (.int i :: .ref q :: st) (zm_hp m) Q := zq_zaload hd (zm_at hs) hin kk
set_option maxHeartbeats 60000 in
theorem zm_lld {q n0 : Nat} {f : Nat → Int64} {i : Int32} (hd : decode F.2.1 pc = .ok (.laload, 1)) (hs : zm_sh[q]? = some (.inl (1, n0, .inr (.inl f)))) (hin : vp_in i n0) (kk : zq_V G F k n (pc + 1) L (.long (m.2 q i.toNatClampNeg) :: st) (zm_hp m) Q) : zq_V G F k n pc L (.int i :: .ref q :: st) (zm_hp m) Q := zq_laload hd (zm_at hs) hin kk
set_option maxHeartbeats 60000 in
theorem zm_ast {q n0 : Nat} {f : Nat → Int32} {i x : Int32} (hd : decode F.2.1 pc = .ok (.iastore, 1)) (hs : zm_sh[q]? = some (.inl (0, n0, .inl f))) (hin : vp_in i n0) (kk : zq_V G F k n (pc + 1) L st (zm_hp (zm_wI m q i.toNatClampNeg x)) Q) : zq_V G F k n pc L (.int x :: .int i :: .ref q :: st) (zm_hp m) Q := zq_iastore hd (zm_at hs) hin (by rw [zm_setA hs]; exact kk)
set_option maxHeartbeats 60000 in
theorem zm_zst {q n0 : Nat} {f : Nat → Int32} {i x : Int32} (hd : decode F.2.1 pc = .ok (.bastore, 1)) (hs : zm_sh[q]? = some (.inl (2, n0, .inl f))) (hin : vp_in i n0) (hb : zm_isB x) (kk : zq_V G F k n (pc + 1) L st (zm_hp (zm_wI m q i.toNatClampNeg x)) Q) : zq_V G F k n pc L (.int x :: .int i :: .ref q :: st) (zm_hp m) Q := zq_zastore hd (zm_at hs) hin hb.vp (by rw [zm_setA hs]; exact kk)
set_option maxHeartbeats 60000 in
theorem zm_lst {q n0 : Nat} {f : Nat → Int64} {i : Int32} {x : Int64} (hd : decode F.2.1 pc = .ok (.lastore, 1)) (hs : zm_sh[q]? = some (.inl (1, n0, .inr (.inl f)))) (hin : vp_in i n0) (kk : zq_V G F k n (pc + 1) L st (zm_hp (zm_wL m q i.toNatClampNeg x)) Q) : zq_V G F k n pc L (.long x :: .int i :: .ref q :: st) (zm_hp m) Q := zq_lastore hd (zm_at hs) hin (by rw [zm_setB hs]; exact kk)
set_option maxHeartbeats 60000 in
theorem zm_pld {i : Int32} (hd : decode F.2.1 pc = .ok (.aaload, 1)) (hin : vp_in i 4) (kk : zq_V G F k n (pc + 1) L (.ref (13 + 5 * i.toNatClampNeg) :: st) (zm_hp m) Q) : zq_V G F k n pc L (.int i :: .ref 1 :: st) (zm_hp m) Q :=
  zq_aaload hd (zm_at (q := 1) rfl) hin (if_pos (Nat.not_le.mp fun q => hin (Or.inr q))) kk
set_option maxHeartbeats 60000 in
theorem zm_alen {q t n0 : Nat} {f : Nat → Int32} (hd : decode F.2.1 pc = .ok (.arraylength, 1)) (hs : zm_sh[q]? = some (.inl (t, n0, .inl f))) (kk : zq_V G F k n (pc + 1) L (.int (Int32.ofNat n0) :: st) (zm_hp m) Q) : zq_V G F k n pc L (.ref q :: st) (zm_hp m) Q := zq_alen hd (zm_at hs) kk
end ZMR
/-- a player's cells -/
def zm_pl (q : Nat) : Prop := q = 13 ∨ q = 18 ∨ q = 23 ∨ q = 28
def zm_wo (q : Nat) : Prop := q = 9 ∨ q = 10 ∨ q = 17 ∨ q = 22 ∨ q = 27 ∨ q = 32
def zm_ar (q : Nat) : Prop := zm_sh[q]? = some (.inl (0, 34, .inl (fun _ => 0)))
set_option maxHeartbeats 60000 in
theorem zm_pl.s {q : Nat} (h : zm_pl q) : zm_sh[q]? = some (.inr (2, zm_f_Player q)) := by rcases h with rfl | rfl | rfl | rfl <;> rfl
set_option maxHeartbeats 60000 in
theorem zm_pl.c {q : Nat} (h : zm_pl q) : zm_ar (q + 1) := by rcases h with rfl | rfl | rfl | rfl <;> rfl
set_option maxHeartbeats 60000 in
theorem zm_pl.m {q : Nat} (h : zm_pl q) : zm_sh[q + 2]? = some (.inl (0, 4, .inl (fun _ => 0))) := by rcases h with rfl | rfl | rfl | rfl <;> rfl
set_option maxHeartbeats 60000 in
theorem zm_pl.r {q : Nat} (h : zm_pl q) : zm_sh[q + 3]? = some (.inl (0, 96, .inl (fun _ => 0))) := by rcases h with rfl | rfl | rfl | rfl <;> rfl
set_option maxHeartbeats 60000 in
theorem zm_pl.w {q : Nat} (h : zm_pl q) : zm_wo (q + 4) := by rcases h with rfl | rfl | rfl | rfl <;> simp [zm_wo]
set_option maxHeartbeats 60000 in
theorem zm_wo.s {q : Nat} (h : zm_wo q) : zm_sh[q]? = some (.inr (3, zm_f_Worth)) := by rcases h with rfl | rfl | rfl | rfl | rfl | rfl <;> rfl
set_option maxHeartbeats 60000 in
theorem zm_pl_of {i : Int32} (h : vp_in i 4) : zm_pl (13 + 5 * i.toNatClampNeg) := by
  have h1 : i.toNatClampNeg < 4 := Nat.not_le.mp fun q => h (Or.inr q)
  generalize i.toNatClampNeg = j at h1
  match j, h1 with
  | 0, _ => exact Or.inl rfl
  | 1, _ => exact Or.inr (Or.inl rfl)
  | 2, _ => exact Or.inr (Or.inr (Or.inl rfl))
  | 3, _ => exact Or.inr (Or.inr (Or.inr rfl))
