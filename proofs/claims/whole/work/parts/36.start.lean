/-! THE LAW FROM ITS ENTRY: what is left is pure: zl_goal -/
def zl_seed (Ls : Nat) (xs : Nat → Int32) : Int32 := if Int32.ofNat Ls ≤ 0 then 0 else xs 0
/-- the memory of the table and of the reference, and the law's loop over them -/
def zl_goal (Ls : Nat) (xs : Nat → Int32) : Prop := j_Wall_shuffle (zi_m (if zl_seed Ls xs = 0 then 1 else zl_seed Ls xs)) (fun m0 => j_Model_tail (zl_seed Ls xs) (fun m1 => ∃ n, j_Law_law_L28 Ls xs (fun r _ => r = 1) n 1 m1) (zi_m2 m0))
theorem zr_H {G : zq_G} {F : zq_C} {k n pc : Nat} {L : List (Option Value)} {st : List Value} {h h' : zq_H} {Q : Option Value → zq_H → Prop} (e : h = h') (kk : zq_V G F k n pc L st h' Q) : zq_V G F k n pc L st h Q := by rw [e]; exact kk
theorem s_Law_cell {l : Launch} {D : va_G} {sz Ls : Nat} {xs : Nat → Int32} {h : zq_H} : zq_Mt (zk_g (l, D, sz, (Ls, xs))) y_Law_cell 0 0 0 [.ref (zq_B + 0), .int 0] h (fun v h' => v = some (.int (zl_seed Ls xs)) ∧ h' = h) := by
  refine zq_meth (ini := false) rfl (fun h => by cases h) (Nat.le_of_ble_eq_true rfl) ?_
  refine zr_L (L' := [some (.ref (zq_B + 0)), some (.int 0)]) rfl ?_
  refine zq_iload_n d_Law_cell_0 rfl rfl ?_
  refine zq_aload_n d_Law_cell_1 rfl rfl ?_
  refine zq_slen (i := 0) (x := (Ls, xs)) d_Law_cell_2 rfl ?_
  refine zq_icmp_ge (tgt := 12) d_Law_cell_3 (by decide) (fun c => ?_) (fun c => ?_)
  · refine zq_iconst (v := 0) d_Law_cell_12 zk_i0 ?_
    exact zq_iret d_Law_cell_13 rfl rfl (Nat.le_refl _) (Nat.le_refl _) ⟨by rw [zl_seed, if_pos c], rfl⟩
  · have hb : vp_in 0 Ls := by
      intro hq
      rcases hq with hq | hq
      · exact absurd hq (by decide)
      · have h0 : Ls = 0 := Nat.le_zero.mp hq
        subst h0
        exact c (show Int32.ofNat 0 ≤ 0 by decide)
    refine zq_aload_n d_Law_cell_6 rfl rfl ?_
    refine zq_iload_n d_Law_cell_7 rfl rfl ?_
    refine zq_sload (i := 0) (x := (Ls, xs)) d_Law_cell_8 rfl hb ?_
    refine zq_goto (tgt := 13) d_Law_cell_9 (by decide) ?_
    exact zq_iret d_Law_cell_13 rfl rfl (Nat.le_refl _) (Nat.le_refl _) ⟨by rw [zl_seed, if_neg c]; rfl, rfl⟩
set_option maxHeartbeats 1000000 in
theorem zl_V {l : Launch} {D : va_G} {sz Ls : Nat} {xs : Nat → Int32} (hJ : zl_goal Ls xs) : zq_V (zk_g (l, D, sz, (Ls, xs))) ("RiichiTableLaw", code, 4, ret, false, room_1) 0 0 0 [some (.ref (zq_B + 0)), none, none, none] [] [] (zm_QI (fun r _ => r = 1)) := by
  unfold zl_goal at hJ
  refine zr_H (h' := ([] : zq_H) ++ []) rfl ?_
  refine zw_new (ci := 0) (N := 14) (fs := [.null, .null, .null, .int 0, .int 0, .int 0, .int 0, .int 0, .int 0, .int 0, .int 0, .int 0, .int 0, .int 0]) (X' := [.inr (0, [.null, .null, .null, .int 0, .int 0, .int 0, .int 0, .int 0, .int 0, .int 0, .int 0, .int 0, .int 0, .int 0])]) rfl (q := 0) rfl d_Law_law_0 rfl (zq_in (zq_c1 (List.mem_of_getElem? (i := 13) rfl)) rfl) (zq_in (zq_c1 (List.mem_of_getElem? (i := 14) rfl)) rfl) (zq_in (zq_c1 (List.mem_of_getElem? (i := 1) rfl)) rfl) zd_Table (fun v hv => by revert v hv; simp [zq_ok]) (fun ad => rfl) (by decide) (Nat.le_of_ble_eq_true rfl) (Nat.le_of_ble_eq_true rfl) rfl ?_
  refine zq_dup d_Law_law_3 rfl ?_
  refine zq_aload_n d_Law_law_4 rfl rfl ?_
  refine zq_iconst (v := 0) d_Law_law_5 zk_i0 ?_
  refine zq_calls (as := [.ref (zq_B + 0), .int 0]) (st := [.ref 0, .ref 0]) d_Law_law_6 cc_Law_9 cs_Law_cell s_Law_cell rfl ⟨Nat.le_of_ble_eq_true rfl, Nat.le_of_ble_eq_true rfl⟩ (Nat.le_of_ble_eq_true rfl) (Nat.le_of_ble_eq_true rfl) (Nat.le_of_ble_eq_true rfl) (fun v h9 hq => ?_)
  obtain ⟨hv, hh⟩ := hq
  rw [hv, hh]
  refine zq_calln (q := 0) (as := [.int (zl_seed Ls xs)]) (st := [.ref 0]) d_Law_law_9 cc_Law_15 ci_Table_init (s_Table_init hJ) rfl ⟨Nat.le_of_ble_eq_true rfl, Nat.le_of_ble_eq_true rfl⟩ (Nat.le_of_ble_eq_true rfl) (Nat.le_of_ble_eq_true rfl) (Nat.le_of_ble_eq_true rfl) (fun v h9 hq => ?_)
  obtain ⟨m0, hv, hh, hJ⟩ := hq
  rw [hv, hh]
  refine zr_astore_n (L' := [some (.ref (zq_B + 0)), some (.ref 0), none, none]) d_Law_law_12 rfl (Nat.le_of_ble_eq_true rfl) rfl ?_
  refine zr_H (h' := zn_hp m0 ++ ([] : zq_H)) (List.append_nil _).symm ?_
  refine zw_new (ci := 6) (N := 50) (fs := [.null, .int 0, .int 0, .int 0, .int 0, .int 0, .int 0, .int 0, .int 0, .null, .null, .null, .null, .null, .null, .null, .int 0, .int 0, .int 0, .int 0, .null, .null, .null, .int 0, .int 0, .int 0, .int 0, .null, .null, .null, .null, .null, .int 0, .int 0, .int 0, .int 0, .null, .null, .null, .int 0, .int 0, .null, .null, .null, .int 0, .int 0, .int 0, .int 0, .int 0, .long 0]) (X' := [.inr (6, [.null, .int 0, .int 0, .int 0, .int 0, .int 0, .int 0, .int 0, .int 0, .null, .null, .null, .null, .null, .null, .null, .int 0, .int 0, .int 0, .int 0, .null, .null, .null, .int 0, .int 0, .int 0, .int 0, .null, .null, .null, .null, .null, .int 0, .int 0, .int 0, .int 0, .null, .null, .null, .int 0, .int 0, .null, .null, .null, .int 0, .int 0, .int 0, .int 0, .int 0, .long 0])]) zn_len (q := 33) rfl d_Law_law_13 rfl (zq_in (zq_c4 (List.mem_of_getElem? (i := 60) rfl)) rfl) (zq_in (zq_c4 (List.mem_of_getElem? (i := 61) rfl)) rfl) (zq_in (zq_c1 (List.mem_of_getElem? (i := 7) rfl)) rfl) zd_Model (fun v hv => by revert v hv; simp [zq_ok]) (fun ad => rfl) (by decide) (Nat.le_of_ble_eq_true rfl) (Nat.le_of_ble_eq_true rfl) rfl ?_
  refine zq_dup d_Law_law_16 rfl ?_
  refine zq_aload_n d_Law_law_17 rfl rfl ?_
  refine zq_iconst (v := 0) d_Law_law_18 zk_i0 ?_
  refine zq_calls (as := [.ref (zq_B + 0), .int 0]) (st := [.ref 33, .ref 33]) d_Law_law_19 cc_Law_9 cs_Law_cell s_Law_cell rfl ⟨Nat.le_of_ble_eq_true rfl, Nat.le_of_ble_eq_true rfl⟩ (Nat.le_of_ble_eq_true rfl) (Nat.le_of_ble_eq_true rfl) (Nat.le_of_ble_eq_true rfl) (fun v h9 hq => ?_)
  obtain ⟨hv, hh⟩ := hq
  rw [hv, hh]
  refine zq_calln (q := 33) (as := [.int (zl_seed Ls xs)]) (st := [.ref 33]) d_Law_law_22 cc_Law_20 ci_Model_init (s_Model_init hJ) rfl ⟨Nat.le_of_ble_eq_true rfl, Nat.le_of_ble_eq_true rfl⟩ (Nat.le_of_ble_eq_true rfl) (Nat.le_of_ble_eq_true rfl) (Nat.le_of_ble_eq_true rfl) (fun v h9 hq => ?_)
  obtain ⟨m1, hv, hh, hJ⟩ := hq
  rw [hv, hh]
  refine zr_astore_n (L' := [some (.ref (zq_B + 0)), some (.ref 0), some (.ref 33), none]) d_Law_law_25 rfl (Nat.le_of_ble_eq_true rfl) rfl ?_
  refine zq_iconst (v := 1) d_Law_law_26 zk_i1 ?_
  refine zr_istore_n (L' := [some (.ref (zq_B + 0)), some (.ref 0), some (.ref 33), some (.int 1)]) d_Law_law_27 rfl (Nat.le_of_ble_eq_true rfl) rfl ?_
  refine zq_widen (k1 := 56) (n1 := 1853) (Nat.le_of_ble_eq_true rfl) (Nat.le_of_ble_eq_true rfl) ?_
  obtain ⟨n28, hJ⟩ := hJ
  exact s_Law_law_L28 n28 hJ
