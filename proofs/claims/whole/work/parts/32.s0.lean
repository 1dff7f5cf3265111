set_option maxHeartbeats 400000 in
theorem s0_Wall_isPlace_L16 {g : zk_T} {a0 : Int32} {K : Int32 → zm → Prop} {t0 : Int32} {m : zm} (hJ : j_Wall_isPlace_L16 a0  K t0 m) : zq_V (zk_g g) ("RiichiTable$Wall", prog_6_method_5_code, 1, (some .boolean), false, zq_rm 0 0 0) 0 0 16 [some (.int a0)] [.int t0] (zn_hp m) (zn_QI K) := by
  unfold j_Wall_isPlace_L16 at hJ
  exact zq_iret d_Wall_isPlace_16 rfl hJ.1.nar (Nat.le_refl _) (Nat.le_refl _) ⟨_, _, rfl, rfl, hJ.2⟩
set_option maxHeartbeats 400000 in
theorem s0_Wall_isPlace_L15 {g : zk_T} {a0 : Int32} {K : Int32 → zm → Prop} {m : zm} (hJ : j_Wall_isPlace_L15 a0  K  m) : zq_V (zk_g g) ("RiichiTable$Wall", prog_6_method_5_code, 1, (some .boolean), false, zq_rm 0 0 0) 0 0 15 [some (.int a0)] [] (zn_hp m) (zn_QI K) := by
  unfold j_Wall_isPlace_L15 at hJ
  refine zq_iconst (v := 0) d_Wall_isPlace_15 zk_i0 ?_
  refine zr_less (L' := [some (.int a0)]) ⟨rfl, trivial⟩ ?_
  exact s0_Wall_isPlace_L16    hJ
set_option maxHeartbeats 400000 in
theorem s0_Wall_isPlace {g : zk_T} {a0 : Int32} {K : Int32 → zm → Prop} {m : zm} (hJ : j_Wall_isPlace a0 m K) : zq_Mt (zk_g g) y_Wall_isPlace 0 0 0 [.int a0] (zn_hp m) (zn_QI K) := by
  unfold j_Wall_isPlace at hJ
  refine zq_meth (ini := false) rfl (fun h => by cases h) (Nat.le_of_ble_eq_true rfl) ?_
  refine zr_L (F := ("RiichiTable$Wall", prog_6_method_5_code, 1, (some .boolean), false, zq_rm 0 0 0)) (L' := [some (.int a0)]) rfl ?_
  refine zq_iload_n d_Wall_isPlace_0 rfl rfl ?_
  refine zq_if_lt (tgt := 15) d_Wall_isPlace_1 (by decide) (fun c => ?_) (fun c => ?_)
  · have hJ := hJ.1 c
    refine zr_less (L' := [some (.int a0)]) ⟨rfl, trivial⟩ ?_
    exact s0_Wall_isPlace_L15    hJ
  · have hJ := hJ.2 c
    refine zq_iload_n d_Wall_isPlace_4 rfl rfl ?_
    refine zq_sipush (v := 136) d_Wall_isPlace_5 zk_s136 ?_
    refine zq_icmp_ge (tgt := 15) d_Wall_isPlace_8 (by decide) (fun c => ?_) (fun c => ?_)
    · have hJ := hJ.1 c
      refine zr_less (L' := [some (.int a0)]) ⟨rfl, trivial⟩ ?_
      exact s0_Wall_isPlace_L15    hJ
    · have hJ := hJ.2 c
      refine zq_iconst (v := 1) d_Wall_isPlace_11 zk_i1 ?_
      refine zq_goto (tgt := 16) d_Wall_isPlace_12 (by decide) ?_
      refine zr_less (L' := [some (.int a0)]) ⟨rfl, trivial⟩ ?_
      exact s0_Wall_isPlace_L16    hJ
set_option maxHeartbeats 400000 in
theorem s0_Wall_pick_L64 {g : zk_T} {a1 : Int32} {K : Int32 → zm → Prop} {t0 : Int32} {m : zm} (hJ : j_Wall_pick_L64 a1  K t0 m) : zq_V (zk_g g) ("RiichiTable$Wall", prog_6_method_3_code, 2, (some .int), false, zq_rm 0 0 0) 0 0 64 [some (.ref 11), some (.int a1)] [.int t0] (zn_hp m) (zn_QI K) := by
  unfold j_Wall_pick_L64 at hJ
  exact zq_iret d_Wall_pick_64 rfl rfl (Nat.le_refl _) (Nat.le_refl _) ⟨_, _, rfl, rfl, hJ⟩
set_option maxHeartbeats 400000 in
theorem s0_Wall_pick {g : zk_T} {a1 : Int32} {K : Int32 → zm → Prop} {m : zm} (hJ : j_Wall_pick a1 m K) : zq_Mt (zk_g g) y_Wall_pick 0 0 0 [.ref 11, .int a1] (zn_hp m) (zn_QI K) := by
  unfold j_Wall_pick at hJ
  refine zq_meth (ini := false) rfl (fun h => by cases h) (Nat.le_of_ble_eq_true rfl) ?_
  refine zr_L (F := ("RiichiTable$Wall", prog_6_method_3_code, 2, (some .int), false, zq_rm 0 0 0)) (L' := [some (.ref 11), some (.int a1)]) rfl ?_
  refine zq_aload_n d_Wall_pick_0 rfl rfl ?_
  refine zq_aload_n d_Wall_pick_1 rfl rfl ?_
  refine zn_getI fg_Wall_19 d_Wall_pick_2 zt_Wall rfl ?_
  refine zq_aload_n d_Wall_pick_5 rfl rfl ?_
  refine zn_getI fg_Wall_19 d_Wall_pick_6 zt_Wall rfl ?_
  refine zq_bipush (v := 13) d_Wall_pick_9 zk_b13 ?_
  refine zq_ishl d_Wall_pick_11 ?_
  refine zq_ixor d_Wall_pick_12 ?_
  refine zx_putI fl_Wall_19 d_Wall_pick_13 zt_Wall rfl rfl (fun m1 hm1 => ?_)
  have hJ := hJ m1 hm1
  refine zq_aload_n d_Wall_pick_16 rfl rfl ?_
  refine zq_aload_n d_Wall_pick_17 rfl rfl ?_
  refine zn_getI fg_Wall_19 d_Wall_pick_18 zt_Wall rfl ?_
  refine zq_aload_n d_Wall_pick_21 rfl rfl ?_
  refine zn_getI fg_Wall_19 d_Wall_pick_22 zt_Wall rfl ?_
  refine zq_bipush (v := 17) d_Wall_pick_25 zk_b17 ?_
  refine zq_iushr d_Wall_pick_27 ?_
  refine zq_ixor d_Wall_pick_28 ?_
  refine zx_putI fl_Wall_19 d_Wall_pick_29 zt_Wall rfl rfl (fun m2 hm2 => ?_)
  have hJ := hJ m2 hm2
  refine zq_aload_n d_Wall_pick_32 rfl rfl ?_
  refine zq_aload_n d_Wall_pick_33 rfl rfl ?_
  refine zn_getI fg_Wall_19 d_Wall_pick_34 zt_Wall rfl ?_
  refine zq_aload_n d_Wall_pick_37 rfl rfl ?_
  refine zn_getI fg_Wall_19 d_Wall_pick_38 zt_Wall rfl ?_
  refine zq_iconst (v := 5) d_Wall_pick_41 zk_i5 ?_
  refine zq_ishl d_Wall_pick_42 ?_
  refine zq_ixor d_Wall_pick_43 ?_
  refine zx_putI fl_Wall_19 d_Wall_pick_44 zt_Wall rfl rfl (fun m3 hm3 => ?_)
  have hJ := hJ m3 hm3
  refine zq_iload_n d_Wall_pick_47 rfl rfl ?_
  refine zq_if_le (tgt := 63) d_Wall_pick_48 (by decide) (fun c => ?_) (fun c => ?_)
  · have hJ := hJ.1 c
    refine zq_iconst (v := 0) d_Wall_pick_63 zk_i0 ?_
    refine zr_less (L' := [some (.ref 11), some (.int a1)]) ⟨rfl, ⟨rfl, trivial⟩⟩ ?_
    exact s0_Wall_pick_L64    hJ
  · have hJ := hJ.2 c
    refine zq_aload_n d_Wall_pick_51 rfl rfl ?_
    refine zn_getI fg_Wall_19 d_Wall_pick_52 zt_Wall rfl ?_
    refine zq_ldc (v := 2147483647) (zq_in (zq_c1 (List.mem_of_getElem? (i := 234) rfl)) rfl) d_Wall_pick_55 ?_
    refine zq_iand d_Wall_pick_57 ?_
    refine zq_iload_n d_Wall_pick_58 rfl rfl ?_
    obtain ⟨hz, hJ⟩ := hJ
    refine zq_irem d_Wall_pick_59 hz ?_
    refine zq_goto (tgt := 64) d_Wall_pick_60 (by decide) ?_
    refine zr_less (L' := [some (.ref 11), some (.int a1)]) ⟨rfl, ⟨rfl, trivial⟩⟩ ?_
    exact s0_Wall_pick_L64    hJ
set_option maxHeartbeats 400000 in
theorem s0_Wall_exchange_L40 {g : zk_T} {a1 : Int32} {a2 : Int32} {K : zm → Prop} {m : zm} (hJ : j_Wall_exchange_L40 a1 a2  K  m) : zq_V (zk_g g) ("RiichiTable$Wall", prog_6_method_4_code, 4, none, false, zq_rm 1 0 0) 0 0 40 [some (.ref 11), some (.int a1), some (.int a2), none] [] (zn_hp m) (zn_QV K) := by
  unfold j_Wall_exchange_L40 at hJ
  exact zq_vret d_Wall_exchange_40 rfl (Nat.le_refl _) (Nat.le_refl _) ⟨_, rfl, rfl, hJ⟩
set_option maxHeartbeats 400000 in
theorem s0_Wall_exchange {g : zk_T} {a1 : Int32} {a2 : Int32} {K : zm → Prop} {m : zm} (hJ : j_Wall_exchange a1 a2 m K) : zq_Mt (zk_g g) y_Wall_exchange 1 0 0 [.ref 11, .int a1, .int a2] (zn_hp m) (zn_QV K) := by
  unfold j_Wall_exchange at hJ
  refine zq_meth (ini := false) rfl (fun h => by cases h) (Nat.le_of_ble_eq_true rfl) ?_
  refine zr_L (F := ("RiichiTable$Wall", prog_6_method_4_code, 4, none, false, zq_rm 1 0 0)) (L' := [some (.ref 11), some (.int a1), some (.int a2), none]) rfl ?_
  refine zq_iload_n d_Wall_exchange_0 rfl rfl ?_
  refine zx_csI (as := [.int a1]) (st := []) d_Wall_exchange_1 cc_Wall_34 cs_Wall_isPlace (s0_Wall_isPlace  hJ) rfl ⟨Nat.le_of_ble_eq_true rfl, Nat.le_of_ble_eq_true rfl⟩ (Nat.le_of_ble_eq_true rfl) ⟨Nat.le_refl _, Nat.le_refl _⟩ rfl (fun r2 m1 hJ => ?_)
  refine zq_if_eq (tgt := 40) d_Wall_exchange_4 (by decide) (fun c => ?_) (fun c => ?_)
  · have hJ := hJ.1 c
    refine zr_less (L' := [some (.ref 11), some (.int a1), some (.int a2), none]) ⟨rfl, ⟨rfl, ⟨rfl, trivial⟩⟩⟩ ?_
    exact s0_Wall_exchange_L40    hJ
  · have hJ := hJ.2 c
    refine zq_iload_n d_Wall_exchange_7 rfl rfl ?_
    refine zx_csI (as := [.int a2]) (st := []) d_Wall_exchange_8 cc_Wall_34 cs_Wall_isPlace (s0_Wall_isPlace  hJ) rfl ⟨Nat.le_of_ble_eq_true rfl, Nat.le_of_ble_eq_true rfl⟩ (Nat.le_of_ble_eq_true rfl) ⟨Nat.le_refl _, Nat.le_refl _⟩ rfl (fun r4 m3 hJ => ?_)
    refine zq_if_eq (tgt := 40) d_Wall_exchange_11 (by decide) (fun c => ?_) (fun c => ?_)
    · have hJ := hJ.1 c
      refine zr_less (L' := [some (.ref 11), some (.int a1), some (.int a2), none]) ⟨rfl, ⟨rfl, ⟨rfl, trivial⟩⟩⟩ ?_
      exact s0_Wall_exchange_L40    hJ
    · have hJ := hJ.2 c
      refine zq_aload_n d_Wall_exchange_14 rfl rfl ?_
      refine zn_getR fg_Wall_11 d_Wall_exchange_15 zt_Wall rfl ?_
      refine zq_iload_n d_Wall_exchange_18 rfl rfl ?_
      obtain ⟨hb, hJ⟩ := hJ
      refine zn_ald d_Wall_exchange_19 (rfl : zn_sh[12]? = some (.inl (0, 136, .inl (fun _ => 0)))) hb ?_
      refine zr_topi (fun y5 hy5 => ?_)
      have hJ := hJ y5 hy5
      refine zr_istore_n (L' := [some (.ref 11), some (.int a1), some (.int a2), some (.int y5)]) d_Wall_exchange_20 rfl (Nat.le_of_ble_eq_true rfl) rfl ?_
      refine zq_aload_n d_Wall_exchange_21 rfl rfl ?_
      refine zn_getR fg_Wall_11 d_Wall_exchange_22 zt_Wall rfl ?_
      refine zq_iload_n d_Wall_exchange_25 rfl rfl ?_
      refine zq_aload_n d_Wall_exchange_26 rfl rfl ?_
      refine zn_getR fg_Wall_11 d_Wall_exchange_27 zt_Wall rfl ?_
      refine zq_iload_n d_Wall_exchange_30 rfl rfl ?_
      obtain ⟨hb, hJ⟩ := hJ
      refine zn_ald d_Wall_exchange_31 (rfl : zn_sh[12]? = some (.inl (0, 136, .inl (fun _ => 0)))) hb ?_
      obtain ⟨hb, hJ⟩ := hJ
      refine zx_ast d_Wall_exchange_32 (rfl : zn_sh[12]? = some (.inl (0, 136, .inl (fun _ => 0)))) hb (fun m6 hm6 => ?_)
      have hJ := hJ m6 hm6
      refine zq_aload_n d_Wall_exchange_33 rfl rfl ?_
      refine zn_getR fg_Wall_11 d_Wall_exchange_34 zt_Wall rfl ?_
      refine zq_iload_n d_Wall_exchange_37 rfl rfl ?_
      refine zq_iload_n d_Wall_exchange_38 rfl rfl ?_
      obtain ⟨hb, hJ⟩ := hJ
      refine zx_ast d_Wall_exchange_39 (rfl : zn_sh[12]? = some (.inl (0, 136, .inl (fun _ => 0)))) hb (fun m7 hm7 => ?_)
      have hJ := hJ m7 hm7
      refine zr_less (L' := [some (.ref 11), some (.int a1), some (.int a2), none]) ⟨rfl, ⟨rfl, ⟨rfl, trivial⟩⟩⟩ ?_
      exact s0_Wall_exchange_L40    hJ
set_option maxHeartbeats 400000 in
theorem s0_Wall_shuffle_L28 {g : zk_T} {K : zm → Prop} : ∀ (n : Nat) {x1 : Int32} {m : zm}, j_Wall_shuffle_L28   K n x1 m → zq_V (zk_g g) ("RiichiTable$Wall", prog_6_method_2_code, 2, none, false, zq_rm 2 0 0) 0 0 28 [some (.ref 11), some (.int x1)] [] (zn_hp m) (zn_QV K) := by
  intro n
  induction n with
  | zero =>
    intro x1 m hJ
    exact False.elim hJ
  | succ n ih =>
    intro x1 m hJ
    rw [j_Wall_shuffle_L28] at hJ
    refine zq_iload_n d_Wall_shuffle_28 rfl rfl ?_
    refine zq_iconst (v := 1) d_Wall_shuffle_29 zk_i1 ?_
    refine zq_icmp_lt (tgt := 51) d_Wall_shuffle_30 (by decide) (fun c => ?_) (fun c => ?_)
    · have hJ := hJ.1 c
      refine zq_aload_n d_Wall_shuffle_51 rfl rfl ?_
      refine zq_bipush (v := 52) d_Wall_shuffle_52 zk_b52 ?_
      refine zx_putI fl_Wall_15 d_Wall_shuffle_54 zt_Wall rfl rfl (fun m3 hm3 => ?_)
      have hJ := hJ m3 hm3
      refine zq_aload_n d_Wall_shuffle_57 rfl rfl ?_
      refine zq_iconst (v := 0) d_Wall_shuffle_58 zk_i0 ?_
      refine zx_putI fl_Wall_30 d_Wall_shuffle_59 zt_Wall rfl rfl (fun m4 hm4 => ?_)
      have hJ := hJ m4 hm4
      exact zq_vret d_Wall_shuffle_62 rfl (Nat.le_refl _) (Nat.le_refl _) ⟨_, rfl, rfl, hJ⟩
    · have hJ := hJ.2 c
      refine zq_aload_n d_Wall_shuffle_33 rfl rfl ?_
      refine zq_iload_n d_Wall_shuffle_34 rfl rfl ?_
      refine zq_aload_n d_Wall_shuffle_35 rfl rfl ?_
      refine zq_iload_n d_Wall_shuffle_36 rfl rfl ?_
      refine zq_iconst (v := 1) d_Wall_shuffle_37 zk_i1 ?_
      refine zq_iadd d_Wall_shuffle_38 ?_
      refine zx_cvI (q := 11) (as := [.int (x1 + 1)]) (st := [.int x1, .ref 11]) d_Wall_shuffle_39 cc_Wall_22 cv_Wall_pick zt_Wall (s0_Wall_pick  hJ) rfl ⟨Nat.le_of_ble_eq_true rfl, Nat.le_of_ble_eq_true rfl⟩ (Nat.le_of_ble_eq_true rfl) ⟨Nat.le_refl _, Nat.le_refl _⟩ rfl (fun r6 m5 hJ => ?_)
      refine zx_cvV (q := 11) (as := [.int x1, .int r6]) (st := []) d_Wall_shuffle_42 cc_Wall_26 cv_Wall_exchange zt_Wall (s0_Wall_exchange  hJ) rfl ⟨Nat.le_of_ble_eq_true rfl, Nat.le_of_ble_eq_true rfl⟩ (Nat.le_of_ble_eq_true rfl) ⟨Nat.le_refl _, Nat.le_refl _⟩ rfl (fun m7 hJ => ?_)
      refine zr_iinc (d' := (-1)) d_Wall_shuffle_45 zk_im1 rfl (Nat.le_of_ble_eq_true rfl) (fun y8 hy8 => ?_)
      have hJ := hJ y8 hy8
      refine zr_L (L' := [some (.ref 11), some (.int y8)]) rfl ?_
      refine zq_goto (tgt := 28) d_Wall_shuffle_48 (by decide) ?_
      refine zr_less (L' := [some (.ref 11), some (.int y8)]) ⟨rfl, ⟨rfl, trivial⟩⟩ ?_
      exact ih  hJ
set_option maxHeartbeats 400000 in
theorem s0_Wall_shuffle_L2 {g : zk_T} {K : zm → Prop} : ∀ (n : Nat) {x1 : Int32} {m : zm}, j_Wall_shuffle_L2   K n x1 m → zq_V (zk_g g) ("RiichiTable$Wall", prog_6_method_2_code, 2, none, false, zq_rm 2 0 0) 0 0 2 [some (.ref 11), some (.int x1)] [] (zn_hp m) (zn_QV K) := by
  intro n
  induction n with
  | zero =>
    intro x1 m hJ
    exact False.elim hJ
  | succ n ih =>
    intro x1 m hJ
    rw [j_Wall_shuffle_L2] at hJ
    refine zq_iload_n d_Wall_shuffle_2 rfl rfl ?_
    refine zq_sipush (v := 136) d_Wall_shuffle_3 zk_s136 ?_
    refine zq_icmp_ge (tgt := 24) d_Wall_shuffle_6 (by decide) (fun c => ?_) (fun c => ?_)
    · have hJ := hJ.1 c
      refine zq_sipush (v := 135) d_Wall_shuffle_24 zk_s135 ?_
      refine zr_istore_n (L' := [some (.ref 11), some (.int 135)]) d_Wall_shuffle_27 rfl (Nat.le_of_ble_eq_true rfl) rfl ?_
      refine zr_less (L' := [some (.ref 11), some (.int 135)]) ⟨rfl, ⟨rfl, trivial⟩⟩ ?_
      obtain ⟨n28, hJ⟩ := hJ
      exact s0_Wall_shuffle_L28   n28  hJ
    · have hJ := hJ.2 c
      refine zq_aload_n d_Wall_shuffle_9 rfl rfl ?_
      refine zn_getR fg_Wall_11 d_Wall_shuffle_10 zt_Wall rfl ?_
      refine zq_iload_n d_Wall_shuffle_13 rfl rfl ?_
      refine zq_iload_n d_Wall_shuffle_14 rfl rfl ?_
      refine zq_iconst (v := 4) d_Wall_shuffle_15 zk_i4 ?_
      refine zq_idiv d_Wall_shuffle_16 (by decide) ?_
      obtain ⟨hb, hJ⟩ := hJ
      refine zx_ast d_Wall_shuffle_17 (rfl : zn_sh[12]? = some (.inl (0, 136, .inl (fun _ => 0)))) hb (fun m1 hm1 => ?_)
      have hJ := hJ m1 hm1
      refine zr_iinc (d' := 1) d_Wall_shuffle_18 zk_i1 rfl (Nat.le_of_ble_eq_true rfl) (fun y2 hy2 => ?_)
      have hJ := hJ y2 hy2
      refine zr_L (L' := [some (.ref 11), some (.int y2)]) rfl ?_
      refine zq_goto (tgt := 2) d_Wall_shuffle_21 (by decide) ?_
      refine zr_less (L' := [some (.ref 11), some (.int y2)]) ⟨rfl, ⟨rfl, trivial⟩⟩ ?_
      exact ih  hJ
set_option maxHeartbeats 400000 in
theorem s0_Wall_shuffle {g : zk_T} {K : zm → Prop} {m : zm} (hJ : j_Wall_shuffle  m K) : zq_Mt (zk_g g) y_Wall_shuffle 2 0 0 [.ref 11] (zn_hp m) (zn_QV K) := by
  unfold j_Wall_shuffle at hJ
  refine zq_meth (ini := false) rfl (fun h => by cases h) (Nat.le_of_ble_eq_true rfl) ?_
  refine zr_L (F := ("RiichiTable$Wall", prog_6_method_2_code, 2, none, false, zq_rm 2 0 0)) (L' := [some (.ref 11), none]) rfl ?_
  refine zq_iconst (v := 0) d_Wall_shuffle_0 zk_i0 ?_
  refine zr_istore_n (L' := [some (.ref 11), some (.int 0)]) d_Wall_shuffle_1 rfl (Nat.le_of_ble_eq_true rfl) rfl ?_
  refine zr_less (L' := [some (.ref 11), some (.int 0)]) ⟨rfl, ⟨rfl, trivial⟩⟩ ?_
  obtain ⟨n2, hJ⟩ := hJ
  exact s0_Wall_shuffle_L2   n2  hJ
