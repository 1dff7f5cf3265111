set_option maxHeartbeats 400000 in
theorem s_JArrays_fill_L5 {g : zk_T} {r0 : Nat} {a1 : Int32} (hr0 : zm_ar r0) {K : zm → Prop} : ∀ (n : Nat) {x2 : Int32} {x3 : Int32} {m : zm}, j_JArrays_fill_L5 r0 a1  K n x2 x3 m → zq_V (zk_g g) ("java/util/Arrays", prog_13_method_103_code, 4, none, false, zq_rm 0 0 0) 0 0 5 [some (.ref r0), some (.int a1), some (.int x2), some (.int x3)] [] (zm_hp m) (zm_QV K) := by
  intro n
  induction n with
  | zero =>
    intro x2 x3 m hJ
    exact False.elim hJ
  | succ n ih =>
    intro x2 x3 m hJ
    rw [j_JArrays_fill_L5] at hJ
    refine zq_iload_n d_JArrays_fill_5 rfl rfl ?_
    refine zq_iload_n d_JArrays_fill_6 rfl rfl ?_
    refine zq_icmp_ge (tgt := 20) d_JArrays_fill_7 (by decide) (fun c => ?_) (fun c => ?_)
    · have hJ := hJ.1 c
      exact zq_vret d_JArrays_fill_20 rfl (Nat.le_refl _) (Nat.le_refl _) ⟨_, rfl, rfl, hJ⟩
    · have hJ := hJ.2 c
      refine zq_aload_n d_JArrays_fill_10 rfl rfl ?_
      refine zq_iload_n d_JArrays_fill_11 rfl rfl ?_
      refine zq_iload_n d_JArrays_fill_12 rfl rfl ?_
      obtain ⟨hb, hJ⟩ := hJ
      refine zr_ast d_JArrays_fill_13 hr0 hb (fun m2 hm2 => ?_)
      have hJ := hJ m2 hm2
      refine zr_iinc (d' := 1) d_JArrays_fill_14 zk_i1 rfl (Nat.le_of_ble_eq_true rfl) (fun y3 hy3 => ?_)
      have hJ := hJ y3 hy3
      refine zr_L (L' := [some (.ref r0), some (.int a1), some (.int y3), some (.int x3)]) rfl ?_
      refine zq_goto (tgt := 5) d_JArrays_fill_17 (by decide) ?_
      refine zr_less (L' := [some (.ref r0), some (.int a1), some (.int y3), some (.int x3)]) ⟨rfl, ⟨rfl, ⟨rfl, ⟨rfl, trivial⟩⟩⟩⟩ ?_
      exact ih  hJ
set_option maxHeartbeats 400000 in
theorem s_JArrays_fill {g : zk_T} {r0 : Nat} {a1 : Int32} (hr0 : zm_ar r0) {K : zm → Prop} {m : zm} (hJ : j_JArrays_fill r0 a1 m K) : zq_Mt (zk_g g) y_JArrays_fill 0 0 0 [.ref r0, .int a1] (zm_hp m) (zm_QV K) := by
  unfold j_JArrays_fill at hJ
  refine zq_meth (ini := false) rfl (fun h => by cases h) (Nat.le_of_ble_eq_true rfl) ?_
  refine zr_L (F := ("java/util/Arrays", prog_13_method_103_code, 4, none, false, zq_rm 0 0 0)) (L' := [some (.ref r0), some (.int a1), none, none]) rfl ?_
  refine zq_iconst (v := 0) d_JArrays_fill_0 zk_i0 ?_
  refine zr_istore_n (L' := [some (.ref r0), some (.int a1), some (.int 0), none]) d_JArrays_fill_1 rfl (Nat.le_of_ble_eq_true rfl) rfl ?_
  refine zq_aload_n d_JArrays_fill_2 rfl rfl ?_
  refine zm_alen d_JArrays_fill_3 hr0 ?_
  refine zr_topi (fun y1 hy1 => ?_)
  have hJ := hJ y1 hy1
  refine zr_istore_n (L' := [some (.ref r0), some (.int a1), some (.int 0), some (.int y1)]) d_JArrays_fill_4 rfl (Nat.le_of_ble_eq_true rfl) rfl ?_
  refine zr_less (L' := [some (.ref r0), some (.int a1), some (.int 0), some (.int y1)]) ⟨rfl, ⟨rfl, ⟨rfl, ⟨rfl, trivial⟩⟩⟩⟩ ?_
  obtain ⟨n5, hJ⟩ := hJ
  exact s_JArrays_fill_L5 hr0  n5  hJ
set_option maxHeartbeats 400000 in
theorem s_Player_clearHand {g : zk_T} {q : Nat} (hq : zm_pl q) {K : zm → Prop} {m : zm} (hJ : j_Player_clearHand q m K) : zq_Mt (zk_g g) y_Player_clearHand 1 0 0 [.ref q] (zm_hp m) (zm_QV K) := by
  unfold j_Player_clearHand at hJ
  refine zq_meth (ini := false) rfl (fun h => by cases h) (Nat.le_of_ble_eq_true rfl) ?_
  refine zr_L (F := ("RiichiTable$Player", prog_3_method_2_code, 1, none, false, zq_rm 1 0 0)) (L' := [some (.ref q)]) rfl ?_
  refine zq_aload_n d_Player_clearHand_0 rfl rfl ?_
  refine zm_getR fg_Player_9 d_Player_clearHand_1 hq.s rfl ?_
  refine zq_iconst (v := 0) d_Player_clearHand_4 zk_i0 ?_
  refine zr_csV (as := [.ref (q + 1), .int 0]) (st := []) d_Player_clearHand_5 cc_Player_32 cs_JArrays_fill (s_JArrays_fill (zm_pl.c hq) hJ) rfl ⟨Nat.le_of_ble_eq_true rfl, Nat.le_of_ble_eq_true rfl⟩ (Nat.le_of_ble_eq_true rfl) ⟨Nat.le_refl _, Nat.le_refl _⟩ rfl (fun m1 hJ => ?_)
  refine zq_aload_n d_Player_clearHand_8 rfl rfl ?_
  refine zq_iconst (v := 0) d_Player_clearHand_9 zk_i0 ?_
  refine zr_putI fl_Player_38 d_Player_clearHand_10 hq.s rfl rfl (fun m2 hm2 => ?_)
  have hJ := hJ m2 hm2
  refine zq_aload_n d_Player_clearHand_13 rfl rfl ?_
  refine zq_iconst (v := 0) d_Player_clearHand_14 zk_i0 ?_
  refine zr_putI fl_Player_41 d_Player_clearHand_15 hq.s rfl rfl (fun m3 hm3 => ?_)
  have hJ := hJ m3 hm3
  refine zq_aload_n d_Player_clearHand_18 rfl rfl ?_
  refine zq_lconst (v := 0) d_Player_clearHand_19 zk_l0 ?_
  refine zr_putL fl_Player_44 d_Player_clearHand_20 hq.s rfl rfl (fun m4 hm4 => ?_)
  have hJ := hJ m4 hm4
  refine zq_aload_n d_Player_clearHand_23 rfl rfl ?_
  refine zq_iconst (v := 0) d_Player_clearHand_24 zk_i0 ?_
  refine zr_putI fl_Player_48 d_Player_clearHand_25 hq.s rfl rfl (fun m5 hm5 => ?_)
  have hJ := hJ m5 hm5
  refine zq_aload_n d_Player_clearHand_28 rfl rfl ?_
  refine zq_iconst (v := 0) d_Player_clearHand_29 zk_i0 ?_
  refine zr_putZ fl_Player_51 d_Player_clearHand_30 hq.s rfl rfl (Or.inl rfl) (fun m6 hm6 => ?_)
  have hJ := hJ m6 hm6
  refine zq_aload_n d_Player_clearHand_33 rfl rfl ?_
  refine zq_iconst (v := 0) d_Player_clearHand_34 zk_i0 ?_
  refine zr_putZ fl_Player_55 d_Player_clearHand_35 hq.s rfl rfl (Or.inl rfl) (fun m7 hm7 => ?_)
  have hJ := hJ m7 hm7
  exact zq_vret d_Player_clearHand_38 rfl (Nat.le_refl _) (Nat.le_refl _) ⟨_, rfl, rfl, hJ⟩
set_option maxHeartbeats 400000 in
theorem s_Player_layOff_L51 {g : zk_T} {q : Nat} {a1 : Int32} (hq : zm_pl q) {K : zm → Prop} {m : zm} (hJ : j_Player_layOff_L51 q a1  K  m) : zq_V (zk_g g) ("RiichiTable$Player", prog_3_method_3_code, 2, none, false, zq_rm 0 0 0) 0 0 51 [some (.ref q), some (.int a1)] [] (zm_hp m) (zm_QV K) := by
  unfold j_Player_layOff_L51 at hJ
  exact zq_vret d_Player_layOff_51 rfl (Nat.le_refl _) (Nat.le_refl _) ⟨_, rfl, rfl, hJ⟩
set_option maxHeartbeats 400000 in
theorem s_Player_layOff {g : zk_T} {q : Nat} {a1 : Int32} (hq : zm_pl q) {K : zm → Prop} {m : zm} (hJ : j_Player_layOff q a1 m K) : zq_Mt (zk_g g) y_Player_layOff 0 0 0 [.ref q, .int a1] (zm_hp m) (zm_QV K) := by
  unfold j_Player_layOff at hJ
  refine zq_meth (ini := false) rfl (fun h => by cases h) (Nat.le_of_ble_eq_true rfl) ?_
  refine zr_L (F := ("RiichiTable$Player", prog_3_method_3_code, 2, none, false, zq_rm 0 0 0)) (L' := [some (.ref q), some (.int a1)]) rfl ?_
  refine zq_aload_n d_Player_layOff_0 rfl rfl ?_
  refine zm_getR fg_Player_9 d_Player_layOff_1 hq.s rfl ?_
  refine zq_iload_n d_Player_layOff_4 rfl rfl ?_
  refine zq_dup2 d_Player_layOff_5 rfl rfl ?_
  obtain ⟨hb, hJ⟩ := hJ
  refine zm_ald d_Player_layOff_6 (zm_pl.c hq) hb ?_
  refine zq_iconst (v := 1) d_Player_layOff_7 zk_i1 ?_
  refine zq_isub d_Player_layOff_8 ?_
  obtain ⟨hb, hJ⟩ := hJ
  refine zr_ast d_Player_layOff_9 (zm_pl.c hq) hb (fun m1 hm1 => ?_)
  have hJ := hJ m1 hm1
  refine zq_aload_n d_Player_layOff_10 rfl rfl ?_
  refine zq_dup d_Player_layOff_11 rfl ?_
  refine zm_getL fg_Player_44 d_Player_layOff_12 hq.s rfl ?_
  refine zq_lconst (v := 1) d_Player_layOff_15 zk_l1 ?_
  refine zq_iload_n d_Player_layOff_16 rfl rfl ?_
  refine zq_lshl d_Player_layOff_17 ?_
  refine zq_lor d_Player_layOff_18 ?_
  refine zr_putL fl_Player_44 d_Player_layOff_19 hq.s rfl rfl (fun m2 hm2 => ?_)
  have hJ := hJ m2 hm2
  refine zq_aload_n d_Player_layOff_22 rfl rfl ?_
  refine zm_getI fg_Player_41 d_Player_layOff_23 hq.s rfl ?_
  refine zq_bipush (v := 96) d_Player_layOff_26 zk_b96 ?_
  refine zq_icmp_ge (tgt := 51) d_Player_layOff_28 (by decide) (fun c => ?_) (fun c => ?_)
  · have hJ := hJ.1 c
    refine zr_less (L' := [some (.ref q), some (.int a1)]) ⟨rfl, ⟨rfl, trivial⟩⟩ ?_
    exact s_Player_layOff_L51 hq   hJ
  · have hJ := hJ.2 c
    refine zq_aload_n d_Player_layOff_31 rfl rfl ?_
    refine zm_getR fg_Player_18 d_Player_layOff_32 hq.s rfl ?_
    refine zq_aload_n d_Player_layOff_35 rfl rfl ?_
    refine zm_getI fg_Player_41 d_Player_layOff_36 hq.s rfl ?_
    refine zq_iload_n d_Player_layOff_39 rfl rfl ?_
    obtain ⟨hb, hJ⟩ := hJ
    refine zr_ast d_Player_layOff_40 (zm_pl.r hq) hb (fun m3 hm3 => ?_)
    have hJ := hJ m3 hm3
    refine zq_aload_n d_Player_layOff_41 rfl rfl ?_
    refine zq_dup d_Player_layOff_42 rfl ?_
    refine zm_getI fg_Player_41 d_Player_layOff_43 hq.s rfl ?_
    refine zq_iconst (v := 1) d_Player_layOff_46 zk_i1 ?_
    refine zq_iadd d_Player_layOff_47 ?_
    refine zr_putI fl_Player_41 d_Player_layOff_48 hq.s rfl rfl (fun m4 hm4 => ?_)
    have hJ := hJ m4 hm4
    refine zr_less (L' := [some (.ref q), some (.int a1)]) ⟨rfl, ⟨rfl, trivial⟩⟩ ?_
    exact s_Player_layOff_L51 hq   hJ
set_option maxHeartbeats 400000 in
theorem s_Player_addMeld_L32 {g : zk_T} {q : Nat} {a1 : Int32} {a2 : Int32} (hq : zm_pl q) {K : zm → Prop} {m : zm} (hJ : j_Player_addMeld_L32 q a1 a2  K  m) : zq_V (zk_g g) ("RiichiTable$Player", prog_3_method_4_code, 3, none, false, zq_rm 0 0 0) 0 0 32 [some (.ref q), some (.int a1), some (.int a2)] [] (zm_hp m) (zm_QV K) := by
  unfold j_Player_addMeld_L32 at hJ
  exact zq_vret d_Player_addMeld_32 rfl (Nat.le_refl _) (Nat.le_refl _) ⟨_, rfl, rfl, hJ⟩
set_option maxHeartbeats 400000 in
theorem s_Player_addMeld {g : zk_T} {q : Nat} {a1 : Int32} {a2 : Int32} (hq : zm_pl q) {K : zm → Prop} {m : zm} (hJ : j_Player_addMeld q a1 a2 m K) : zq_Mt (zk_g g) y_Player_addMeld 0 0 0 [.ref q, .int a1, .int a2] (zm_hp m) (zm_QV K) := by
  unfold j_Player_addMeld at hJ
  refine zq_meth (ini := false) rfl (fun h => by cases h) (Nat.le_of_ble_eq_true rfl) ?_
  refine zr_L (F := ("RiichiTable$Player", prog_3_method_4_code, 3, none, false, zq_rm 0 0 0)) (L' := [some (.ref q), some (.int a1), some (.int a2)]) rfl ?_
  refine zq_aload_n d_Player_addMeld_0 rfl rfl ?_
  refine zm_getI fg_Player_38 d_Player_addMeld_1 hq.s rfl ?_
  refine zq_iconst (v := 4) d_Player_addMeld_4 zk_i4 ?_
  refine zq_icmp_ge (tgt := 32) d_Player_addMeld_5 (by decide) (fun c => ?_) (fun c => ?_)
  · have hJ := hJ.1 c
    refine zr_less (L' := [some (.ref q), some (.int a1), some (.int a2)]) ⟨rfl, ⟨rfl, ⟨rfl, trivial⟩⟩⟩ ?_
    exact s_Player_addMeld_L32 hq   hJ
  · have hJ := hJ.2 c
    refine zq_aload_n d_Player_addMeld_8 rfl rfl ?_
    refine zm_getR fg_Player_15 d_Player_addMeld_9 hq.s rfl ?_
    refine zq_aload_n d_Player_addMeld_12 rfl rfl ?_
    refine zm_getI fg_Player_38 d_Player_addMeld_13 hq.s rfl ?_
    refine zq_iconst (v := 4) d_Player_addMeld_16 zk_i4 ?_
    refine zq_iload_n d_Player_addMeld_17 rfl rfl ?_
    refine zq_imul d_Player_addMeld_18 ?_
    refine zq_iload_n d_Player_addMeld_19 rfl rfl ?_
    refine zq_iadd d_Player_addMeld_20 ?_
    obtain ⟨hb, hJ⟩ := hJ
    refine zr_ast d_Player_addMeld_21 (zm_pl.m hq) hb (fun m1 hm1 => ?_)
    have hJ := hJ m1 hm1
    refine zq_aload_n d_Player_addMeld_22 rfl rfl ?_
    refine zq_dup d_Player_addMeld_23 rfl ?_
    refine zm_getI fg_Player_38 d_Player_addMeld_24 hq.s rfl ?_
    refine zq_iconst (v := 1) d_Player_addMeld_27 zk_i1 ?_
    refine zq_iadd d_Player_addMeld_28 ?_
    refine zr_putI fl_Player_38 d_Player_addMeld_29 hq.s rfl rfl (fun m2 hm2 => ?_)
    have hJ := hJ m2 hm2
    refine zr_less (L' := [some (.ref q), some (.int a1), some (.int a2)]) ⟨rfl, ⟨rfl, ⟨rfl, trivial⟩⟩⟩ ?_
    exact s_Player_addMeld_L32 hq   hJ
set_option maxHeartbeats 400000 in
theorem s_Player_hasOpenTriplet_L2 {g : zk_T} {q : Nat} {a1 : Int32} (hq : zm_pl q) {K : Int32 → zm → Prop} : ∀ (n : Nat) {x2 : Int32} {m : zm}, j_Player_hasOpenTriplet_L2 q a1  K n x2 m → zq_V (zk_g g) ("RiichiTable$Player", prog_3_method_5_code, 3, (some .boolean), false, zq_rm 0 0 0) 0 0 2 [some (.ref q), some (.int a1), some (.int x2)] [] (zm_hp m) (zm_QI K) := by
  intro n
  induction n with
  | zero =>
    intro x2 m hJ
    exact False.elim hJ
  | succ n ih =>
    intro x2 m hJ
    rw [j_Player_hasOpenTriplet_L2] at hJ
    refine zq_iload_n d_Player_hasOpenTriplet_2 rfl rfl ?_
    refine zq_aload_n d_Player_hasOpenTriplet_3 rfl rfl ?_
    refine zm_getI fg_Player_38 d_Player_hasOpenTriplet_4 hq.s rfl ?_
    refine zq_icmp_ge (tgt := 32) d_Player_hasOpenTriplet_7 (by decide) (fun c => ?_) (fun c => ?_)
    · have hJ := hJ.1 c
      refine zq_iconst (v := 0) d_Player_hasOpenTriplet_32 zk_i0 ?_
      exact zq_iret d_Player_hasOpenTriplet_33 rfl (zm_isB.nar (Or.inl rfl)) (Nat.le_refl _) (Nat.le_refl _) ⟨_, _, rfl, rfl, hJ⟩
    · have hJ := hJ.2 c
      refine zq_aload_n d_Player_hasOpenTriplet_10 rfl rfl ?_
      refine zm_getR fg_Player_15 d_Player_hasOpenTriplet_11 hq.s rfl ?_
      refine zq_iload_n d_Player_hasOpenTriplet_14 rfl rfl ?_
      obtain ⟨hb, hJ⟩ := hJ
      refine zm_ald d_Player_hasOpenTriplet_15 (zm_pl.m hq) hb ?_
      refine zq_iconst (v := 4) d_Player_hasOpenTriplet_16 zk_i4 ?_
      refine zq_iload_n d_Player_hasOpenTriplet_17 rfl rfl ?_
      refine zq_imul d_Player_hasOpenTriplet_18 ?_
      refine zq_iconst (v := 1) d_Player_hasOpenTriplet_19 zk_i1 ?_
      refine zq_iadd d_Player_hasOpenTriplet_20 ?_
      refine zq_icmp_ne (tgt := 26) d_Player_hasOpenTriplet_21 (by decide) (fun c => ?_) (fun c => ?_)
      · have hJ := hJ.1 c
        refine zr_iinc (d' := 1) d_Player_hasOpenTriplet_26 zk_i1 rfl (Nat.le_of_ble_eq_true rfl) (fun y1 hy1 => ?_)
        have hJ := hJ y1 hy1
        refine zr_L (L' := [some (.ref q), some (.int a1), some (.int y1)]) rfl ?_
        refine zq_goto (tgt := 2) d_Player_hasOpenTriplet_29 (by decide) ?_
        refine zr_less (L' := [some (.ref q), some (.int a1), some (.int y1)]) ⟨rfl, ⟨rfl, ⟨rfl, trivial⟩⟩⟩ ?_
        exact ih  hJ
      · have hJ := hJ.2 c
        refine zq_iconst (v := 1) d_Player_hasOpenTriplet_24 zk_i1 ?_
        exact zq_iret d_Player_hasOpenTriplet_25 rfl (zm_isB.nar (Or.inr rfl)) (Nat.le_refl _) (Nat.le_refl _) ⟨_, _, rfl, rfl, hJ⟩
set_option maxHeartbeats 400000 in
theorem s_Player_hasOpenTriplet {g : zk_T} {q : Nat} {a1 : Int32} (hq : zm_pl q) {K : Int32 → zm → Prop} {m : zm} (hJ : j_Player_hasOpenTriplet q a1 m K) : zq_Mt (zk_g g) y_Player_hasOpenTriplet 0 0 0 [.ref q, .int a1] (zm_hp m) (zm_QI K) := by
  unfold j_Player_hasOpenTriplet at hJ
  refine zq_meth (ini := false) rfl (fun h => by cases h) (Nat.le_of_ble_eq_true rfl) ?_
  refine zr_L (F := ("RiichiTable$Player", prog_3_method_5_code, 3, (some .boolean), false, zq_rm 0 0 0)) (L' := [some (.ref q), some (.int a1), none]) rfl ?_
  refine zq_iconst (v := 0) d_Player_hasOpenTriplet_0 zk_i0 ?_
  refine zr_istore_n (L' := [some (.ref q), some (.int a1), some (.int 0)]) d_Player_hasOpenTriplet_1 rfl (Nat.le_of_ble_eq_true rfl) rfl ?_
  refine zr_less (L' := [some (.ref q), some (.int a1), some (.int 0)]) ⟨rfl, ⟨rfl, ⟨rfl, trivial⟩⟩⟩ ?_
  obtain ⟨n2, hJ⟩ := hJ
  exact s_Player_hasOpenTriplet_L2 hq  n2  hJ
set_option maxHeartbeats 400000 in
theorem s_Player_raiseTriplet_L35 {g : zk_T} {q : Nat} {a1 : Int32} (hq : zm_pl q) {R2 : Int32 → zm → Prop} {K : zm → Prop} (hR2 : ∀ {x2 : Int32} {m : zm}, R2 x2 m → zq_V (zk_g g) ("RiichiTable$Player", prog_3_method_6_code, 3, none, false, zq_rm 0 0 0) 0 0 2 [some (.ref q), some (.int a1), some (.int x2)] [] (zm_hp m) (zm_QV K)) {x2 : Int32} {m : zm} (hJ : j_Player_raiseTriplet_L35 q a1 R2 K x2 m) : zq_V (zk_g g) ("RiichiTable$Player", prog_3_method_6_code, 3, none, false, zq_rm 0 0 0) 0 0 35 [some (.ref q), some (.int a1), some (.int x2)] [] (zm_hp m) (zm_QV K) := by
  unfold j_Player_raiseTriplet_L35 at hJ
  refine zr_iinc (d' := 1) d_Player_raiseTriplet_35 zk_i1 rfl (Nat.le_of_ble_eq_true rfl) (fun y2 hy2 => ?_)
  have hJ := hJ y2 hy2
  refine zr_L (L' := [some (.ref q), some (.int a1), some (.int y2)]) rfl ?_
  refine zq_goto (tgt := 2) d_Player_raiseTriplet_38 (by decide) ?_
  refine zr_less (L' := [some (.ref q), some (.int a1), some (.int y2)]) ⟨rfl, ⟨rfl, ⟨rfl, trivial⟩⟩⟩ ?_
  exact hR2  hJ
set_option maxHeartbeats 400000 in
theorem s_Player_raiseTriplet_L2 {g : zk_T} {q : Nat} {a1 : Int32} (hq : zm_pl q) {K : zm → Prop} : ∀ (n : Nat) {x2 : Int32} {m : zm}, j_Player_raiseTriplet_L2 q a1  K n x2 m → zq_V (zk_g g) ("RiichiTable$Player", prog_3_method_6_code, 3, none, false, zq_rm 0 0 0) 0 0 2 [some (.ref q), some (.int a1), some (.int x2)] [] (zm_hp m) (zm_QV K) := by
  intro n
  induction n with
  | zero =>
    intro x2 m hJ
    exact False.elim hJ
  | succ n ih =>
    intro x2 m hJ
    rw [j_Player_raiseTriplet_L2] at hJ
    refine zq_iload_n d_Player_raiseTriplet_2 rfl rfl ?_
    refine zq_aload_n d_Player_raiseTriplet_3 rfl rfl ?_
    refine zm_getI fg_Player_38 d_Player_raiseTriplet_4 hq.s rfl ?_
    refine zq_icmp_ge (tgt := 41) d_Player_raiseTriplet_7 (by decide) (fun c => ?_) (fun c => ?_)
    · have hJ := hJ.1 c
      exact zq_vret d_Player_raiseTriplet_41 rfl (Nat.le_refl _) (Nat.le_refl _) ⟨_, rfl, rfl, hJ⟩
    · have hJ := hJ.2 c
      refine zq_aload_n d_Player_raiseTriplet_10 rfl rfl ?_
      refine zm_getR fg_Player_15 d_Player_raiseTriplet_11 hq.s rfl ?_
      refine zq_iload_n d_Player_raiseTriplet_14 rfl rfl ?_
      obtain ⟨hb, hJ⟩ := hJ
      refine zm_ald d_Player_raiseTriplet_15 (zm_pl.m hq) hb ?_
      refine zq_iconst (v := 4) d_Player_raiseTriplet_16 zk_i4 ?_
      refine zq_iload_n d_Player_raiseTriplet_17 rfl rfl ?_
      refine zq_imul d_Player_raiseTriplet_18 ?_
      refine zq_iconst (v := 1) d_Player_raiseTriplet_19 zk_i1 ?_
      refine zq_iadd d_Player_raiseTriplet_20 ?_
      refine zq_icmp_ne (tgt := 35) d_Player_raiseTriplet_21 (by decide) (fun c => ?_) (fun c => ?_)
      · have hJ := hJ.1 c
        refine zr_less (L' := [some (.ref q), some (.int a1), some (.int x2)]) ⟨rfl, ⟨rfl, ⟨rfl, trivial⟩⟩⟩ ?_
        exact s_Player_raiseTriplet_L35 hq ih  hJ
      · have hJ := hJ.2 c
        refine zq_aload_n d_Player_raiseTriplet_24 rfl rfl ?_
        refine zm_getR fg_Player_15 d_Player_raiseTriplet_25 hq.s rfl ?_
        refine zq_iload_n d_Player_raiseTriplet_28 rfl rfl ?_
        refine zq_iconst (v := 4) d_Player_raiseTriplet_29 zk_i4 ?_
        refine zq_iload_n d_Player_raiseTriplet_30 rfl rfl ?_
        refine zq_imul d_Player_raiseTriplet_31 ?_
        refine zq_iconst (v := 2) d_Player_raiseTriplet_32 zk_i2 ?_
        refine zq_iadd d_Player_raiseTriplet_33 ?_
        obtain ⟨hb, hJ⟩ := hJ
        refine zr_ast d_Player_raiseTriplet_34 (zm_pl.m hq) hb (fun m1 hm1 => ?_)
        have hJ := hJ m1 hm1
        refine zr_less (L' := [some (.ref q), some (.int a1), some (.int x2)]) ⟨rfl, ⟨rfl, ⟨rfl, trivial⟩⟩⟩ ?_
        exact s_Player_raiseTriplet_L35 hq ih  hJ
set_option maxHeartbeats 400000 in
theorem s_Player_raiseTriplet {g : zk_T} {q : Nat} {a1 : Int32} (hq : zm_pl q) {K : zm → Prop} {m : zm} (hJ : j_Player_raiseTriplet q a1 m K) : zq_Mt (zk_g g) y_Player_raiseTriplet 0 0 0 [.ref q, .int a1] (zm_hp m) (zm_QV K) := by
  unfold j_Player_raiseTriplet at hJ
  refine zq_meth (ini := false) rfl (fun h => by cases h) (Nat.le_of_ble_eq_true rfl) ?_
  refine zr_L (F := ("RiichiTable$Player", prog_3_method_6_code, 3, none, false, zq_rm 0 0 0)) (L' := [some (.ref q), some (.int a1), none]) rfl ?_
  refine zq_iconst (v := 0) d_Player_raiseTriplet_0 zk_i0 ?_
  refine zr_istore_n (L' := [some (.ref q), some (.int a1), some (.int 0)]) d_Player_raiseTriplet_1 rfl (Nat.le_of_ble_eq_true rfl) rfl ?_
  refine zr_less (L' := [some (.ref q), some (.int a1), some (.int 0)]) ⟨rfl, ⟨rfl, ⟨rfl, trivial⟩⟩⟩ ?_
  obtain ⟨n2, hJ⟩ := hJ
  exact s_Player_raiseTriplet_L2 hq  n2  hJ
set_option maxHeartbeats 400000 in
theorem s_Player_hasRestOfRun_L31 {g : zk_T} {q : Nat} {a1 : Int32} {a2 : Int32} (hq : zm_pl q) {K : Int32 → zm → Prop} {m : zm} (hJ : j_Player_hasRestOfRun_L31 q a1 a2  K  m) : zq_V (zk_g g) ("RiichiTable$Player", prog_3_method_8_code, 4, (some .boolean), false, zq_rm 0 0 0) 0 0 31 [some (.ref q), some (.int a1), some (.int a2), none] [] (zm_hp m) (zm_QI K) := by
  unfold j_Player_hasRestOfRun_L31 at hJ
  refine zq_iconst (v := 0) d_Player_hasRestOfRun_31 zk_i0 ?_
  exact zq_iret d_Player_hasRestOfRun_32 rfl (zm_isB.nar (Or.inl rfl)) (Nat.le_refl _) (Nat.le_refl _) ⟨_, _, rfl, rfl, hJ⟩
set_option maxHeartbeats 400000 in
theorem s_Player_hasRestOfRun_L58 {g : zk_T} {q : Nat} {a1 : Int32} {a2 : Int32} (hq : zm_pl q) {R35 : Int32 → zm → Prop} {K : Int32 → zm → Prop} (hR35 : ∀ {x3 : Int32} {m : zm}, R35 x3 m → zq_V (zk_g g) ("RiichiTable$Player", prog_3_method_8_code, 4, (some .boolean), false, zq_rm 0 0 0) 0 0 35 [some (.ref q), some (.int a1), some (.int a2), some (.int x3)] [] (zm_hp m) (zm_QI K)) {x3 : Int32} {m : zm} (hJ : j_Player_hasRestOfRun_L58 q a1 a2 R35 K x3 m) : zq_V (zk_g g) ("RiichiTable$Player", prog_3_method_8_code, 4, (some .boolean), false, zq_rm 0 0 0) 0 0 58 [some (.ref q), some (.int a1), some (.int a2), some (.int x3)] [] (zm_hp m) (zm_QI K) := by
  unfold j_Player_hasRestOfRun_L58 at hJ
  refine zr_iinc (d' := 1) d_Player_hasRestOfRun_58 zk_i1 rfl (Nat.le_of_ble_eq_true rfl) (fun y1 hy1 => ?_)
  have hJ := hJ y1 hy1
  refine zr_L (L' := [some (.ref q), some (.int a1), some (.int a2), some (.int y1)]) rfl ?_
  refine zq_goto (tgt := 35) d_Player_hasRestOfRun_61 (by decide) ?_
  refine zr_less (L' := [some (.ref q), some (.int a1), some (.int a2), some (.int y1)]) ⟨rfl, ⟨rfl, ⟨rfl, ⟨rfl, trivial⟩⟩⟩⟩ ?_
  exact hR35  hJ
set_option maxHeartbeats 400000 in
theorem s_Player_hasRestOfRun_L35 {g : zk_T} {q : Nat} {a1 : Int32} {a2 : Int32} (hq : zm_pl q) {K : Int32 → zm → Prop} : ∀ (n : Nat) {x3 : Int32} {m : zm}, j_Player_hasRestOfRun_L35 q a1 a2  K n x3 m → zq_V (zk_g g) ("RiichiTable$Player", prog_3_method_8_code, 4, (some .boolean), false, zq_rm 0 0 0) 0 0 35 [some (.ref q), some (.int a1), some (.int a2), some (.int x3)] [] (zm_hp m) (zm_QI K) := by
  intro n
  induction n with
  | zero =>
    intro x3 m hJ
    exact False.elim hJ
  | succ n ih =>
    intro x3 m hJ
    rw [j_Player_hasRestOfRun_L35] at hJ
    refine zq_iload_n d_Player_hasRestOfRun_35 rfl rfl ?_
    refine zq_iload_n d_Player_hasRestOfRun_36 rfl rfl ?_
    refine zq_iconst (v := 2) d_Player_hasRestOfRun_37 zk_i2 ?_
    refine zq_iadd d_Player_hasRestOfRun_38 ?_
    refine zq_icmp_gt (tgt := 64) d_Player_hasRestOfRun_39 (by decide) (fun c => ?_) (fun c => ?_)
    · have hJ := hJ.1 c
      refine zq_iconst (v := 1) d_Player_hasRestOfRun_64 zk_i1 ?_
      exact zq_iret d_Player_hasRestOfRun_65 rfl (zm_isB.nar (Or.inr rfl)) (Nat.le_refl _) (Nat.le_refl _) ⟨_, _, rfl, rfl, hJ⟩
    · have hJ := hJ.2 c
      refine zq_iload_n d_Player_hasRestOfRun_42 rfl rfl ?_
      refine zq_iload_n d_Player_hasRestOfRun_43 rfl rfl ?_
      refine zq_icmp_eq (tgt := 58) d_Player_hasRestOfRun_44 (by decide) (fun c => ?_) (fun c => ?_)
      · have hJ := hJ.1 c
        refine zr_less (L' := [some (.ref q), some (.int a1), some (.int a2), some (.int x3)]) ⟨rfl, ⟨rfl, ⟨rfl, ⟨rfl, trivial⟩⟩⟩⟩ ?_
        exact s_Player_hasRestOfRun_L58 hq ih  hJ
      · have hJ := hJ.2 c
        refine zq_aload_n d_Player_hasRestOfRun_47 rfl rfl ?_
        refine zm_getR fg_Player_9 d_Player_hasRestOfRun_48 hq.s rfl ?_
        refine zq_iload_n d_Player_hasRestOfRun_51 rfl rfl ?_
        obtain ⟨hb, hJ⟩ := hJ
        refine zm_ald d_Player_hasRestOfRun_52 (zm_pl.c hq) hb ?_
        refine zq_if_ne (tgt := 58) d_Player_hasRestOfRun_53 (by decide) (fun c => ?_) (fun c => ?_)
        · have hJ := hJ.1 c
          refine zr_less (L' := [some (.ref q), some (.int a1), some (.int a2), some (.int x3)]) ⟨rfl, ⟨rfl, ⟨rfl, ⟨rfl, trivial⟩⟩⟩⟩ ?_
          exact s_Player_hasRestOfRun_L58 hq ih  hJ
        · have hJ := hJ.2 c
          refine zq_iconst (v := 0) d_Player_hasRestOfRun_56 zk_i0 ?_
          exact zq_iret d_Player_hasRestOfRun_57 rfl (zm_isB.nar (Or.inl rfl)) (Nat.le_refl _) (Nat.le_refl _) ⟨_, _, rfl, rfl, hJ⟩
set_option maxHeartbeats 400000 in
theorem s_Player_hasRestOfRun {g : zk_T} {q : Nat} {a1 : Int32} {a2 : Int32} (hq : zm_pl q) {K : Int32 → zm → Prop} {m : zm} (hJ : j_Player_hasRestOfRun q a1 a2 m K) : zq_Mt (zk_g g) y_Player_hasRestOfRun 0 0 0 [.ref q, .int a1, .int a2] (zm_hp m) (zm_QI K) := by
  unfold j_Player_hasRestOfRun at hJ
  refine zq_meth (ini := false) rfl (fun h => by cases h) (Nat.le_of_ble_eq_true rfl) ?_
  refine zr_L (F := ("RiichiTable$Player", prog_3_method_8_code, 4, (some .boolean), false, zq_rm 0 0 0)) (L' := [some (.ref q), some (.int a1), some (.int a2), none]) rfl ?_
  refine zq_iload_n d_Player_hasRestOfRun_0 rfl rfl ?_
  refine zq_if_lt (tgt := 31) d_Player_hasRestOfRun_1 (by decide) (fun c => ?_) (fun c => ?_)
  · have hJ := hJ.1 c
    refine zr_less (L' := [some (.ref q), some (.int a1), some (.int a2), none]) ⟨rfl, ⟨rfl, ⟨rfl, trivial⟩⟩⟩ ?_
    exact s_Player_hasRestOfRun_L31 hq   hJ
  · have hJ := hJ.2 c
    refine zq_iload_n d_Player_hasRestOfRun_4 rfl rfl ?_
    refine zq_bipush (v := 27) d_Player_hasRestOfRun_5 zk_b27 ?_
    refine zq_icmp_ge (tgt := 31) d_Player_hasRestOfRun_7 (by decide) (fun c => ?_) (fun c => ?_)
    · have hJ := hJ.1 c
      refine zr_less (L' := [some (.ref q), some (.int a1), some (.int a2), none]) ⟨rfl, ⟨rfl, ⟨rfl, trivial⟩⟩⟩ ?_
      exact s_Player_hasRestOfRun_L31 hq   hJ
    · have hJ := hJ.2 c
      refine zq_iload_n d_Player_hasRestOfRun_10 rfl rfl ?_
      refine zq_bipush (v := 9) d_Player_hasRestOfRun_11 zk_b9 ?_
      refine zq_irem d_Player_hasRestOfRun_13 (by decide) ?_
      refine zq_bipush (v := 6) d_Player_hasRestOfRun_14 zk_b6 ?_
      refine zq_icmp_gt (tgt := 31) d_Player_hasRestOfRun_16 (by decide) (fun c => ?_) (fun c => ?_)
      · have hJ := hJ.1 c
        refine zr_less (L' := [some (.ref q), some (.int a1), some (.int a2), none]) ⟨rfl, ⟨rfl, ⟨rfl, trivial⟩⟩⟩ ?_
        exact s_Player_hasRestOfRun_L31 hq   hJ
      · have hJ := hJ.2 c
        refine zq_iload_n d_Player_hasRestOfRun_19 rfl rfl ?_
        refine zq_iload_n d_Player_hasRestOfRun_20 rfl rfl ?_
        refine zq_icmp_lt (tgt := 31) d_Player_hasRestOfRun_21 (by decide) (fun c => ?_) (fun c => ?_)
        · have hJ := hJ.1 c
          refine zr_less (L' := [some (.ref q), some (.int a1), some (.int a2), none]) ⟨rfl, ⟨rfl, ⟨rfl, trivial⟩⟩⟩ ?_
          exact s_Player_hasRestOfRun_L31 hq   hJ
        · have hJ := hJ.2 c
          refine zq_iload_n d_Player_hasRestOfRun_24 rfl rfl ?_
          refine zq_iload_n d_Player_hasRestOfRun_25 rfl rfl ?_
          refine zq_iconst (v := 2) d_Player_hasRestOfRun_26 zk_i2 ?_
          refine zq_iadd d_Player_hasRestOfRun_27 ?_
          refine zq_icmp_le (tgt := 33) d_Player_hasRestOfRun_28 (by decide) (fun c => ?_) (fun c => ?_)
          · have hJ := hJ.1 c
            refine zq_iload_n d_Player_hasRestOfRun_33 rfl rfl ?_
            refine zr_istore_n (L' := [some (.ref q), some (.int a1), some (.int a2), some (.int a1)]) d_Player_hasRestOfRun_34 rfl (Nat.le_of_ble_eq_true rfl) rfl ?_
            refine zr_less (L' := [some (.ref q), some (.int a1), some (.int a2), some (.int a1)]) ⟨rfl, ⟨rfl, ⟨rfl, ⟨rfl, trivial⟩⟩⟩⟩ ?_
            obtain ⟨n35, hJ⟩ := hJ
            exact s_Player_hasRestOfRun_L35 hq  n35  hJ
          · have hJ := hJ.2 c
            refine zr_less (L' := [some (.ref q), some (.int a1), some (.int a2), none]) ⟨rfl, ⟨rfl, ⟨rfl, trivial⟩⟩⟩ ?_
            exact s_Player_hasRestOfRun_L31 hq   hJ
set_option maxHeartbeats 400000 in
theorem s_Player_giveRestOfRun_L33 {g : zk_T} {q : Nat} {a1 : Int32} {a2 : Int32} (hq : zm_pl q) {R11 : Int32 → zm → Prop} {K : zm → Prop} (hR11 : ∀ {x3 : Int32} {m : zm}, R11 x3 m → zq_V (zk_g g) ("RiichiTable$Player", prog_3_method_9_code, 4, none, false, zq_rm 1 0 0) 0 0 11 [some (.ref q), some (.int a1), some (.int a2), some (.int x3)] [] (zm_hp m) (zm_QV K)) {x3 : Int32} {m : zm} (hJ : j_Player_giveRestOfRun_L33 q a1 a2 R11 K x3 m) : zq_V (zk_g g) ("RiichiTable$Player", prog_3_method_9_code, 4, none, false, zq_rm 1 0 0) 0 0 33 [some (.ref q), some (.int a1), some (.int a2), some (.int x3)] [] (zm_hp m) (zm_QV K) := by
  unfold j_Player_giveRestOfRun_L33 at hJ
  refine zr_iinc (d' := 1) d_Player_giveRestOfRun_33 zk_i1 rfl (Nat.le_of_ble_eq_true rfl) (fun y4 hy4 => ?_)
  have hJ := hJ y4 hy4
  refine zr_L (L' := [some (.ref q), some (.int a1), some (.int a2), some (.int y4)]) rfl ?_
  refine zq_goto (tgt := 11) d_Player_giveRestOfRun_36 (by decide) ?_
  refine zr_less (L' := [some (.ref q), some (.int a1), some (.int a2), some (.int y4)]) ⟨rfl, ⟨rfl, ⟨rfl, ⟨rfl, trivial⟩⟩⟩⟩ ?_
  exact hR11  hJ
set_option maxHeartbeats 400000 in
theorem s_Player_giveRestOfRun_L39 {g : zk_T} {q : Nat} {a1 : Int32} {a2 : Int32} (hq : zm_pl q) {K : zm → Prop} {m : zm} (hJ : j_Player_giveRestOfRun_L39 q a1 a2  K  m) : zq_V (zk_g g) ("RiichiTable$Player", prog_3_method_9_code, 4, none, false, zq_rm 1 0 0) 0 0 39 [some (.ref q), some (.int a1), some (.int a2), none] [] (zm_hp m) (zm_QV K) := by
  unfold j_Player_giveRestOfRun_L39 at hJ
  exact zq_vret d_Player_giveRestOfRun_39 rfl (Nat.le_refl _) (Nat.le_refl _) ⟨_, rfl, rfl, hJ⟩
set_option maxHeartbeats 400000 in
theorem s_Player_giveRestOfRun_L11 {g : zk_T} {q : Nat} {a1 : Int32} {a2 : Int32} (hq : zm_pl q) {K : zm → Prop} : ∀ (n : Nat) {x3 : Int32} {m : zm}, j_Player_giveRestOfRun_L11 q a1 a2  K n x3 m → zq_V (zk_g g) ("RiichiTable$Player", prog_3_method_9_code, 4, none, false, zq_rm 1 0 0) 0 0 11 [some (.ref q), some (.int a1), some (.int a2), some (.int x3)] [] (zm_hp m) (zm_QV K) := by
  intro n
  induction n with
  | zero =>
    intro x3 m hJ
    exact False.elim hJ
  | succ n ih =>
    intro x3 m hJ
    rw [j_Player_giveRestOfRun_L11] at hJ
    refine zq_iload_n d_Player_giveRestOfRun_11 rfl rfl ?_
    refine zq_iload_n d_Player_giveRestOfRun_12 rfl rfl ?_
    refine zq_iconst (v := 2) d_Player_giveRestOfRun_13 zk_i2 ?_
    refine zq_iadd d_Player_giveRestOfRun_14 ?_
    refine zq_icmp_gt (tgt := 39) d_Player_giveRestOfRun_15 (by decide) (fun c => ?_) (fun c => ?_)
    · have hJ := hJ.1 c
      refine zr_less (L' := [some (.ref q), some (.int a1), some (.int a2), none]) ⟨rfl, ⟨rfl, ⟨rfl, trivial⟩⟩⟩ ?_
      exact s_Player_giveRestOfRun_L39 hq   hJ
    · have hJ := hJ.2 c
      refine zq_iload_n d_Player_giveRestOfRun_18 rfl rfl ?_
      refine zq_iload_n d_Player_giveRestOfRun_19 rfl rfl ?_
      refine zq_icmp_eq (tgt := 33) d_Player_giveRestOfRun_20 (by decide) (fun c => ?_) (fun c => ?_)
      · have hJ := hJ.1 c
        refine zr_less (L' := [some (.ref q), some (.int a1), some (.int a2), some (.int x3)]) ⟨rfl, ⟨rfl, ⟨rfl, ⟨rfl, trivial⟩⟩⟩⟩ ?_
        exact s_Player_giveRestOfRun_L33 hq ih  hJ
      · have hJ := hJ.2 c
        refine zq_aload_n d_Player_giveRestOfRun_23 rfl rfl ?_
        refine zm_getR fg_Player_9 d_Player_giveRestOfRun_24 hq.s rfl ?_
        refine zq_iload_n d_Player_giveRestOfRun_27 rfl rfl ?_
        refine zq_dup2 d_Player_giveRestOfRun_28 rfl rfl ?_
        obtain ⟨hb, hJ⟩ := hJ
        refine zm_ald d_Player_giveRestOfRun_29 (zm_pl.c hq) hb ?_
        refine zq_iconst (v := 1) d_Player_giveRestOfRun_30 zk_i1 ?_
        refine zq_isub d_Player_giveRestOfRun_31 ?_
        obtain ⟨hb, hJ⟩ := hJ
        refine zr_ast d_Player_giveRestOfRun_32 (zm_pl.c hq) hb (fun m3 hm3 => ?_)
        have hJ := hJ m3 hm3
        refine zr_less (L' := [some (.ref q), some (.int a1), some (.int a2), some (.int x3)]) ⟨rfl, ⟨rfl, ⟨rfl, ⟨rfl, trivial⟩⟩⟩⟩ ?_
        exact s_Player_giveRestOfRun_L33 hq ih  hJ
set_option maxHeartbeats 400000 in
theorem s_Player_giveRestOfRun {g : zk_T} {q : Nat} {a1 : Int32} {a2 : Int32} (hq : zm_pl q) {K : zm → Prop} {m : zm} (hJ : j_Player_giveRestOfRun q a1 a2 m K) : zq_Mt (zk_g g) y_Player_giveRestOfRun 1 0 0 [.ref q, .int a1, .int a2] (zm_hp m) (zm_QV K) := by
  unfold j_Player_giveRestOfRun at hJ
  refine zq_meth (ini := false) rfl (fun h => by cases h) (Nat.le_of_ble_eq_true rfl) ?_
  refine zr_L (F := ("RiichiTable$Player", prog_3_method_9_code, 4, none, false, zq_rm 1 0 0)) (L' := [some (.ref q), some (.int a1), some (.int a2), none]) rfl ?_
  refine zq_aload_n d_Player_giveRestOfRun_0 rfl rfl ?_
  refine zq_iload_n d_Player_giveRestOfRun_1 rfl rfl ?_
  refine zq_iload_n d_Player_giveRestOfRun_2 rfl rfl ?_
  refine zr_cvI (q := q) (as := [.int a1, .int a2]) (st := []) d_Player_giveRestOfRun_3 cc_Player_58 cv_Player_hasRestOfRun hq.s (s_Player_hasRestOfRun hq hJ) rfl ⟨Nat.le_of_ble_eq_true rfl, Nat.le_of_ble_eq_true rfl⟩ (Nat.le_of_ble_eq_true rfl) ⟨Nat.le_refl _, Nat.le_refl _⟩ rfl (fun r2 m1 hJ => ?_)
  refine zq_if_eq (tgt := 39) d_Player_giveRestOfRun_6 (by decide) (fun c => ?_) (fun c => ?_)
  · have hJ := hJ.1 c
    refine zr_less (L' := [some (.ref q), some (.int a1), some (.int a2), none]) ⟨rfl, ⟨rfl, ⟨rfl, trivial⟩⟩⟩ ?_
    exact s_Player_giveRestOfRun_L39 hq   hJ
  · have hJ := hJ.2 c
    refine zq_iload_n d_Player_giveRestOfRun_9 rfl rfl ?_
    refine zr_istore_n (L' := [some (.ref q), some (.int a1), some (.int a2), some (.int a1)]) d_Player_giveRestOfRun_10 rfl (Nat.le_of_ble_eq_true rfl) rfl ?_
    refine zr_less (L' := [some (.ref q), some (.int a1), some (.int a2), some (.int a1)]) ⟨rfl, ⟨rfl, ⟨rfl, ⟨rfl, trivial⟩⟩⟩⟩ ?_
    obtain ⟨n11, hJ⟩ := hJ
    exact s_Player_giveRestOfRun_L11 hq  n11  hJ
set_option maxHeartbeats 400000 in
theorem s_Player_forgetMissed_L12 {g : zk_T} {q : Nat} (hq : zm_pl q) {K : zm → Prop} {m : zm} (hJ : j_Player_forgetMissed_L12 q  K  m) : zq_V (zk_g g) ("RiichiTable$Player", prog_3_method_10_code, 1, none, false, zq_rm 0 0 0) 0 0 12 [some (.ref q)] [] (zm_hp m) (zm_QV K) := by
  unfold j_Player_forgetMissed_L12 at hJ
  exact zq_vret d_Player_forgetMissed_12 rfl (Nat.le_refl _) (Nat.le_refl _) ⟨_, rfl, rfl, hJ⟩
set_option maxHeartbeats 400000 in
theorem s_Player_forgetMissed {g : zk_T} {q : Nat} (hq : zm_pl q) {K : zm → Prop} {m : zm} (hJ : j_Player_forgetMissed q m K) : zq_Mt (zk_g g) y_Player_forgetMissed 0 0 0 [.ref q] (zm_hp m) (zm_QV K) := by
  unfold j_Player_forgetMissed at hJ
  refine zq_meth (ini := false) rfl (fun h => by cases h) (Nat.le_of_ble_eq_true rfl) ?_
  refine zr_L (F := ("RiichiTable$Player", prog_3_method_10_code, 1, none, false, zq_rm 0 0 0)) (L' := [some (.ref q)]) rfl ?_
  refine zq_aload_n d_Player_forgetMissed_0 rfl rfl ?_
  refine zm_getI fg_Player_48 d_Player_forgetMissed_1 hq.s rfl ?_
  refine zq_if_ne (tgt := 12) d_Player_forgetMissed_4 (by decide) (fun c => ?_) (fun c => ?_)
  · have hJ := hJ.1 c
    refine zr_less (L' := [some (.ref q)]) ⟨rfl, trivial⟩ ?_
    exact s_Player_forgetMissed_L12 hq   hJ
  · have hJ := hJ.2 c
    refine zq_aload_n d_Player_forgetMissed_7 rfl rfl ?_
    refine zq_iconst (v := 0) d_Player_forgetMissed_8 zk_i0 ?_
    refine zr_putZ fl_Player_55 d_Player_forgetMissed_9 hq.s rfl rfl (Or.inl rfl) (fun m1 hm1 => ?_)
    have hJ := hJ m1 hm1
    refine zr_less (L' := [some (.ref q)]) ⟨rfl, trivial⟩ ?_
    exact s_Player_forgetMissed_L12 hq   hJ
set_option maxHeartbeats 400000 in
theorem s_Player_countOwned_L9 {g : zk_T} {q : Nat} {a1 : Int32} (hq : zm_pl q) {K : Int32 → zm → Prop} : ∀ (n : Nat) {x2 : Int32} {x3 : Int32} {m : zm}, j_Player_countOwned_L9 q a1  K n x2 x3 m → zq_V (zk_g g) ("RiichiTable$Player", prog_3_method_15_code, 4, (some .int), false, zq_rm 1 0 0) 0 0 9 [some (.ref q), some (.int a1), some (.int x2), some (.int x3)] [] (zm_hp m) (zm_QI K) := by
  intro n
  induction n with
  | zero =>
    intro x2 x3 m hJ
    exact False.elim hJ
  | succ n ih =>
    intro x2 x3 m hJ
    rw [j_Player_countOwned_L9] at hJ
    refine zq_iload_n d_Player_countOwned_9 rfl rfl ?_
    refine zq_aload_n d_Player_countOwned_10 rfl rfl ?_
    refine zm_getI fg_Player_38 d_Player_countOwned_11 hq.s rfl ?_
    refine zq_icmp_ge (tgt := 36) d_Player_countOwned_14 (by decide) (fun c => ?_) (fun c => ?_)
    · have hJ := hJ.1 c
      refine zq_iload_n d_Player_countOwned_36 rfl rfl ?_
      exact zq_iret d_Player_countOwned_37 rfl rfl (Nat.le_refl _) (Nat.le_refl _) ⟨_, _, rfl, rfl, hJ⟩
    · have hJ := hJ.2 c
      refine zq_iload_n d_Player_countOwned_17 rfl rfl ?_
      refine zq_aload_n d_Player_countOwned_18 rfl rfl ?_
      refine zm_getR fg_Player_15 d_Player_countOwned_19 hq.s rfl ?_
      refine zq_iload_n d_Player_countOwned_22 rfl rfl ?_
      obtain ⟨hb, hJ⟩ := hJ
      refine zm_ald d_Player_countOwned_23 (zm_pl.m hq) hb ?_
      refine zq_iload_n d_Player_countOwned_24 rfl rfl ?_
      refine zr_csI (as := [.int (m.1 (q + 2) (Int32.toNatClampNeg x3)), .int a1]) (st := [.int x2]) d_Player_countOwned_25 cc_Player_84 cs_Shape_countIn (s_Shape_countIn  hJ) rfl ⟨Nat.le_of_ble_eq_true rfl, Nat.le_of_ble_eq_true rfl⟩ (Nat.le_of_ble_eq_true rfl) ⟨Nat.le_refl _, Nat.le_refl _⟩ rfl (fun r3 m2 hJ => ?_)
      refine zq_iadd d_Player_countOwned_28 ?_
      refine zr_topi (fun y4 hy4 => ?_)
      have hJ := hJ y4 hy4
      refine zr_istore_n (L' := [some (.ref q), some (.int a1), some (.int y4), some (.int x3)]) d_Player_countOwned_29 rfl (Nat.le_of_ble_eq_true rfl) rfl ?_
      refine zr_iinc (d' := 1) d_Player_countOwned_30 zk_i1 rfl (Nat.le_of_ble_eq_true rfl) (fun y5 hy5 => ?_)
      have hJ := hJ y5 hy5
      refine zr_L (L' := [some (.ref q), some (.int a1), some (.int y4), some (.int y5)]) rfl ?_
      refine zq_goto (tgt := 9) d_Player_countOwned_33 (by decide) ?_
      refine zr_less (L' := [some (.ref q), some (.int a1), some (.int y4), some (.int y5)]) ⟨rfl, ⟨rfl, ⟨rfl, ⟨rfl, trivial⟩⟩⟩⟩ ?_
      exact ih  hJ
set_option maxHeartbeats 400000 in
theorem s_Player_countOwned {g : zk_T} {q : Nat} {a1 : Int32} (hq : zm_pl q) {K : Int32 → zm → Prop} {m : zm} (hJ : j_Player_countOwned q a1 m K) : zq_Mt (zk_g g) y_Player_countOwned 1 0 0 [.ref q, .int a1] (zm_hp m) (zm_QI K) := by
  unfold j_Player_countOwned at hJ
  refine zq_meth (ini := false) rfl (fun h => by cases h) (Nat.le_of_ble_eq_true rfl) ?_
  refine zr_L (F := ("RiichiTable$Player", prog_3_method_15_code, 4, (some .int), false, zq_rm 1 0 0)) (L' := [some (.ref q), some (.int a1), none, none]) rfl ?_
  refine zq_aload_n d_Player_countOwned_0 rfl rfl ?_
  refine zm_getR fg_Player_9 d_Player_countOwned_1 hq.s rfl ?_
  refine zq_iload_n d_Player_countOwned_4 rfl rfl ?_
  obtain ⟨hb, hJ⟩ := hJ
  refine zm_ald d_Player_countOwned_5 (zm_pl.c hq) hb ?_
  refine zr_topi (fun y1 hy1 => ?_)
  have hJ := hJ y1 hy1
  refine zr_istore_n (L' := [some (.ref q), some (.int a1), some (.int y1), none]) d_Player_countOwned_6 rfl (Nat.le_of_ble_eq_true rfl) rfl ?_
  refine zq_iconst (v := 0) d_Player_countOwned_7 zk_i0 ?_
  refine zr_istore_n (L' := [some (.ref q), some (.int a1), some (.int y1), some (.int 0)]) d_Player_countOwned_8 rfl (Nat.le_of_ble_eq_true rfl) rfl ?_
  refine zr_less (L' := [some (.ref q), some (.int a1), some (.int y1), some (.int 0)]) ⟨rfl, ⟨rfl, ⟨rfl, ⟨rfl, trivial⟩⟩⟩⟩ ?_
  obtain ⟨n9, hJ⟩ := hJ
  exact s_Player_countOwned_L9 hq  n9  hJ
set_option maxHeartbeats 400000 in
theorem s_Shape_isSetsBut_L52 {g : zk_T} {r0 : Nat} {a1 : Int32} (hr0 : zm_ar r0) {R7 : Int32 → Int32 → Int32 → zm → Prop} {K : Int32 → zm → Prop} (hR7 : ∀ {x2 : Int32} {x3 : Int32} {x4 : Int32} {m : zm}, R7 x2 x3 x4 m → zq_V (zk_g g) ("RiichiTable$Shape", prog_4_method_7_code, 7, (some .boolean), false, zq_rm 0 0 0) 0 0 7 [some (.ref r0), some (.int a1), some (.int x2), some (.int x3), some (.int x4), none, none] [] (zm_hp m) (zm_QI K)) {x3 : Int32} {x4 : Int32} {t0 : Int32} {t1 : Int32} {m : zm} (hJ : j_Shape_isSetsBut_L52 r0 a1 R7 K x3 x4 t0 t1 m) : zq_V (zk_g g) ("RiichiTable$Shape", prog_4_method_7_code, 7, (some .boolean), false, zq_rm 0 0 0) 0 0 52 [some (.ref r0), some (.int a1), none, some (.int x3), some (.int x4), none, none] [.int t0, .int t1] (zm_hp m) (zm_QI K) := by
  unfold j_Shape_isSetsBut_L52 at hJ
  refine zq_isub d_Shape_isSetsBut_52 ?_
  refine zr_topi (fun y1 hy1 => ?_)
  have hJ := hJ y1 hy1
  refine zr_istore (L' := [some (.ref r0), some (.int a1), none, some (.int x3), some (.int x4), some (.int y1), none]) d_Shape_isSetsBut_53 (Nat.le_of_ble_eq_true rfl) rfl ?_
  refine zq_iload d_Shape_isSetsBut_55 rfl ?_
  refine zq_if_ge (tgt := 62) d_Shape_isSetsBut_57 (by decide) (fun c => ?_) (fun c => ?_)
  · have hJ := hJ.1 c
    refine zq_iload d_Shape_isSetsBut_62 rfl ?_
    refine zq_iconst (v := 3) d_Shape_isSetsBut_64 zk_i3 ?_
    refine zq_irem d_Shape_isSetsBut_65 (by decide) ?_
    refine zr_topi (fun y2 hy2 => ?_)
    have hJ := hJ y2 hy2
    refine zr_istore (L' := [some (.ref r0), some (.int a1), none, some (.int x3), some (.int x4), some (.int y1), some (.int y2)]) d_Shape_isSetsBut_66 (Nat.le_of_ble_eq_true rfl) rfl ?_
    refine zq_iload_n d_Shape_isSetsBut_68 rfl rfl ?_
    refine zq_iload d_Shape_isSetsBut_69 rfl ?_
    refine zq_iadd d_Shape_isSetsBut_71 ?_
    refine zr_topi (fun y3 hy3 => ?_)
    have hJ := hJ y3 hy3
    refine zr_istore_n (L' := [some (.ref r0), some (.int a1), some (.int y3), some (.int x3), some (.int x4), some (.int y1), some (.int y2)]) d_Shape_isSetsBut_72 rfl (Nat.le_of_ble_eq_true rfl) rfl ?_
    refine zq_iload d_Shape_isSetsBut_73 rfl ?_
    refine zr_istore_n (L' := [some (.ref r0), some (.int a1), some (.int y3), some (.int y2), some (.int x4), some (.int y1), some (.int y2)]) d_Shape_isSetsBut_75 rfl (Nat.le_of_ble_eq_true rfl) rfl ?_
    refine zr_iinc (d' := 1) d_Shape_isSetsBut_76 zk_i1 rfl (Nat.le_of_ble_eq_true rfl) (fun y4 hy4 => ?_)
    have hJ := hJ y4 hy4
    refine zr_L (L' := [some (.ref r0), some (.int a1), some (.int y3), some (.int y2), some (.int y4), some (.int y1), some (.int y2)]) rfl ?_
    refine zq_goto (tgt := 7) d_Shape_isSetsBut_79 (by decide) ?_
    refine zr_less (L' := [some (.ref r0), some (.int a1), some (.int y3), some (.int y2), some (.int y4), none, none]) ⟨rfl, ⟨rfl, ⟨rfl, ⟨rfl, ⟨rfl, trivial⟩⟩⟩⟩⟩ ?_
    exact hR7  hJ
  · have hJ := hJ.2 c
    refine zq_iconst (v := 0) d_Shape_isSetsBut_60 zk_i0 ?_
    exact zq_iret d_Shape_isSetsBut_61 rfl (zm_isB.nar (Or.inl rfl)) (Nat.le_refl _) (Nat.le_refl _) ⟨_, _, rfl, rfl, hJ⟩
set_option maxHeartbeats 400000 in
theorem s_Shape_isSetsBut_L35 {g : zk_T} {r0 : Nat} {a1 : Int32} (hr0 : zm_ar r0) {R7 : Int32 → Int32 → Int32 → zm → Prop} {K : Int32 → zm → Prop} (hR7 : ∀ {x2 : Int32} {x3 : Int32} {x4 : Int32} {m : zm}, R7 x2 x3 x4 m → zq_V (zk_g g) ("RiichiTable$Shape", prog_4_method_7_code, 7, (some .boolean), false, zq_rm 0 0 0) 0 0 7 [some (.ref r0), some (.int a1), some (.int x2), some (.int x3), some (.int x4), none, none] [] (zm_hp m) (zm_QI K)) {x2 : Int32} {x3 : Int32} {x4 : Int32} {m : zm} (hJ : j_Shape_isSetsBut_L35 r0 a1 R7 K x2 x3 x4 m) : zq_V (zk_g g) ("RiichiTable$Shape", prog_4_method_7_code, 7, (some .boolean), false, zq_rm 0 0 0) 0 0 35 [some (.ref r0), some (.int a1), some (.int x2), some (.int x3), some (.int x4), none, none] [] (zm_hp m) (zm_QI K) := by
  unfold j_Shape_isSetsBut_L35 at hJ
  refine zq_aload_n d_Shape_isSetsBut_35 rfl rfl ?_
  refine zq_iload d_Shape_isSetsBut_36 rfl ?_
  obtain ⟨hb, hJ⟩ := hJ
  refine zm_ald d_Shape_isSetsBut_38 hr0 hb ?_
  refine zq_iload_n d_Shape_isSetsBut_39 rfl rfl ?_
  refine zq_isub d_Shape_isSetsBut_40 ?_
  refine zq_iload d_Shape_isSetsBut_41 rfl ?_
  refine zq_iload_n d_Shape_isSetsBut_43 rfl rfl ?_
  refine zq_icmp_ne (tgt := 51) d_Shape_isSetsBut_44 (by decide) (fun c => ?_) (fun c => ?_)
  · have hJ := hJ.1 c
    refine zq_iconst (v := 0) d_Shape_isSetsBut_51 zk_i0 ?_
    refine zr_less (L' := [some (.ref r0), some (.int a1), none, some (.int x3), some (.int x4), none, none]) ⟨rfl, ⟨rfl, ⟨rfl, ⟨rfl, trivial⟩⟩⟩⟩ ?_
    exact s_Shape_isSetsBut_L52 hr0 hR7  hJ
  · have hJ := hJ.2 c
    refine zq_iconst (v := 2) d_Shape_isSetsBut_47 zk_i2 ?_
    refine zq_goto (tgt := 52) d_Shape_isSetsBut_48 (by decide) ?_
    refine zr_less (L' := [some (.ref r0), some (.int a1), none, some (.int x3), some (.int x4), none, none]) ⟨rfl, ⟨rfl, ⟨rfl, ⟨rfl, trivial⟩⟩⟩⟩ ?_
    exact s_Shape_isSetsBut_L52 hr0 hR7  hJ
set_option maxHeartbeats 400000 in
theorem s_Shape_isSetsBut_L29 {g : zk_T} {r0 : Nat} {a1 : Int32} (hr0 : zm_ar r0) {R7 : Int32 → Int32 → Int32 → zm → Prop} {K : Int32 → zm → Prop} (hR7 : ∀ {x2 : Int32} {x3 : Int32} {x4 : Int32} {m : zm}, R7 x2 x3 x4 m → zq_V (zk_g g) ("RiichiTable$Shape", prog_4_method_7_code, 7, (some .boolean), false, zq_rm 0 0 0) 0 0 7 [some (.ref r0), some (.int a1), some (.int x2), some (.int x3), some (.int x4), none, none] [] (zm_hp m) (zm_QI K)) {x2 : Int32} {x3 : Int32} {x4 : Int32} {m : zm} (hJ : j_Shape_isSetsBut_L29 r0 a1 R7 K x2 x3 x4 m) : zq_V (zk_g g) ("RiichiTable$Shape", prog_4_method_7_code, 7, (some .boolean), false, zq_rm 0 0 0) 0 0 29 [some (.ref r0), some (.int a1), some (.int x2), some (.int x3), some (.int x4), none, none] [] (zm_hp m) (zm_QI K) := by
  unfold j_Shape_isSetsBut_L29 at hJ
  refine zq_iload_n d_Shape_isSetsBut_29 rfl rfl ?_
  refine zq_if_eq (tgt := 35) d_Shape_isSetsBut_30 (by decide) (fun c => ?_) (fun c => ?_)
  · have hJ := hJ.1 c
    refine zr_less (L' := [some (.ref r0), some (.int a1), some (.int x2), some (.int x3), some (.int x4), none, none]) ⟨rfl, ⟨rfl, ⟨rfl, ⟨rfl, ⟨rfl, trivial⟩⟩⟩⟩⟩ ?_
    exact s_Shape_isSetsBut_L35 hr0 hR7  hJ
  · have hJ := hJ.2 c
    refine zq_iconst (v := 0) d_Shape_isSetsBut_33 zk_i0 ?_
    exact zq_iret d_Shape_isSetsBut_34 rfl (zm_isB.nar (Or.inl rfl)) (Nat.le_refl _) (Nat.le_refl _) ⟨_, _, rfl, rfl, hJ⟩
set_option maxHeartbeats 400000 in
theorem s_Shape_isSetsBut_L91 {g : zk_T} {r0 : Nat} {a1 : Int32} (hr0 : zm_ar r0) {K : Int32 → zm → Prop} {t0 : Int32} {m : zm} (hJ : j_Shape_isSetsBut_L91 r0 a1  K t0 m) : zq_V (zk_g g) ("RiichiTable$Shape", prog_4_method_7_code, 7, (some .boolean), false, zq_rm 0 0 0) 0 0 91 [some (.ref r0), some (.int a1), none, none, none, none, none] [.int t0] (zm_hp m) (zm_QI K) := by
  unfold j_Shape_isSetsBut_L91 at hJ
  exact zq_iret d_Shape_isSetsBut_91 rfl hJ.1.nar (Nat.le_refl _) (Nat.le_refl _) ⟨_, _, rfl, rfl, hJ.2⟩
set_option maxHeartbeats 400000 in
theorem s_Shape_isSetsBut_L7 {g : zk_T} {r0 : Nat} {a1 : Int32} (hr0 : zm_ar r0) {K : Int32 → zm → Prop} : ∀ (n : Nat) {x2 : Int32} {x3 : Int32} {x4 : Int32} {m : zm}, j_Shape_isSetsBut_L7 r0 a1  K n x2 x3 x4 m → zq_V (zk_g g) ("RiichiTable$Shape", prog_4_method_7_code, 7, (some .boolean), false, zq_rm 0 0 0) 0 0 7 [some (.ref r0), some (.int a1), some (.int x2), some (.int x3), some (.int x4), none, none] [] (zm_hp m) (zm_QI K) := by
  intro n
  induction n with
  | zero =>
    intro x2 x3 x4 m hJ
    exact False.elim hJ
  | succ n ih =>
    intro x2 x3 x4 m hJ
    rw [j_Shape_isSetsBut_L7] at hJ
    refine zq_iload d_Shape_isSetsBut_7 rfl ?_
    refine zq_bipush (v := 34) d_Shape_isSetsBut_9 zk_b34 ?_
    refine zq_icmp_ge (tgt := 82) d_Shape_isSetsBut_11 (by decide) (fun c => ?_) (fun c => ?_)
    · have hJ := hJ.1 c
      refine zq_iload_n d_Shape_isSetsBut_82 rfl rfl ?_
      refine zq_if_ne (tgt := 90) d_Shape_isSetsBut_83 (by decide) (fun c => ?_) (fun c => ?_)
      · have hJ := hJ.1 c
        refine zq_iconst (v := 0) d_Shape_isSetsBut_90 zk_i0 ?_
        refine zr_less (L' := [some (.ref r0), some (.int a1), none, none, none, none, none]) ⟨rfl, ⟨rfl, trivial⟩⟩ ?_
        exact s_Shape_isSetsBut_L91 hr0   hJ
      · have hJ := hJ.2 c
        refine zq_iconst (v := 1) d_Shape_isSetsBut_86 zk_i1 ?_
        refine zq_goto (tgt := 91) d_Shape_isSetsBut_87 (by decide) ?_
        refine zr_less (L' := [some (.ref r0), some (.int a1), none, none, none, none, none]) ⟨rfl, ⟨rfl, trivial⟩⟩ ?_
        exact s_Shape_isSetsBut_L91 hr0   hJ
    · have hJ := hJ.2 c
      refine zq_iload d_Shape_isSetsBut_14 rfl ?_
      refine zq_bipush (v := 27) d_Shape_isSetsBut_16 zk_b27 ?_
      refine zq_icmp_ge (tgt := 29) d_Shape_isSetsBut_18 (by decide) (fun c => ?_) (fun c => ?_)
      · have hJ := hJ.1 c
        refine zr_less (L' := [some (.ref r0), some (.int a1), some (.int x2), some (.int x3), some (.int x4), none, none]) ⟨rfl, ⟨rfl, ⟨rfl, ⟨rfl, ⟨rfl, trivial⟩⟩⟩⟩⟩ ?_
        exact s_Shape_isSetsBut_L29 hr0 ih  hJ
      · have hJ := hJ.2 c
        refine zq_iload d_Shape_isSetsBut_21 rfl ?_
        refine zq_bipush (v := 9) d_Shape_isSetsBut_23 zk_b9 ?_
        refine zq_irem d_Shape_isSetsBut_25 (by decide) ?_
        refine zq_if_ne (tgt := 35) d_Shape_isSetsBut_26 (by decide) (fun c => ?_) (fun c => ?_)
        · have hJ := hJ.1 c
          refine zr_less (L' := [some (.ref r0), some (.int a1), some (.int x2), some (.int x3), some (.int x4), none, none]) ⟨rfl, ⟨rfl, ⟨rfl, ⟨rfl, ⟨rfl, trivial⟩⟩⟩⟩⟩ ?_
          exact s_Shape_isSetsBut_L35 hr0 ih  hJ
        · have hJ := hJ.2 c
          refine zr_less (L' := [some (.ref r0), some (.int a1), some (.int x2), some (.int x3), some (.int x4), none, none]) ⟨rfl, ⟨rfl, ⟨rfl, ⟨rfl, ⟨rfl, trivial⟩⟩⟩⟩⟩ ?_
          exact s_Shape_isSetsBut_L29 hr0 ih  hJ
set_option maxHeartbeats 400000 in
theorem s_Shape_isSetsBut {g : zk_T} {r0 : Nat} {a1 : Int32} (hr0 : zm_ar r0) {K : Int32 → zm → Prop} {m : zm} (hJ : j_Shape_isSetsBut r0 a1 m K) : zq_Mt (zk_g g) y_Shape_isSetsBut 0 0 0 [.ref r0, .int a1] (zm_hp m) (zm_QI K) := by
  unfold j_Shape_isSetsBut at hJ
  refine zq_meth (ini := false) rfl (fun h => by cases h) (Nat.le_of_ble_eq_true rfl) ?_
  refine zr_L (F := ("RiichiTable$Shape", prog_4_method_7_code, 7, (some .boolean), false, zq_rm 0 0 0)) (L' := [some (.ref r0), some (.int a1), none, none, none, none, none]) rfl ?_
  refine zq_iconst (v := 0) d_Shape_isSetsBut_0 zk_i0 ?_
  refine zr_istore_n (L' := [some (.ref r0), some (.int a1), some (.int 0), none, none, none, none]) d_Shape_isSetsBut_1 rfl (Nat.le_of_ble_eq_true rfl) rfl ?_
  refine zq_iconst (v := 0) d_Shape_isSetsBut_2 zk_i0 ?_
  refine zr_istore_n (L' := [some (.ref r0), some (.int a1), some (.int 0), some (.int 0), none, none, none]) d_Shape_isSetsBut_3 rfl (Nat.le_of_ble_eq_true rfl) rfl ?_
  refine zq_iconst (v := 0) d_Shape_isSetsBut_4 zk_i0 ?_
  refine zr_istore (L' := [some (.ref r0), some (.int a1), some (.int 0), some (.int 0), some (.int 0), none, none]) d_Shape_isSetsBut_5 (Nat.le_of_ble_eq_true rfl) rfl ?_
  refine zr_less (L' := [some (.ref r0), some (.int a1), some (.int 0), some (.int 0), some (.int 0), none, none]) ⟨rfl, ⟨rfl, ⟨rfl, ⟨rfl, ⟨rfl, trivial⟩⟩⟩⟩⟩ ?_
  obtain ⟨n7, hJ⟩ := hJ
  exact s_Shape_isSetsBut_L7 hr0  n7  hJ
set_option maxHeartbeats 400000 in
theorem s_Shape_isComplete_L18 {g : zk_T} {r0 : Nat} {a1 : Int32} (hr0 : zm_ar r0) {K : Int32 → zm → Prop} {m : zm} (hJ : j_Shape_isComplete_L18 r0 a1  K  m) : zq_V (zk_g g) ("RiichiTable$Shape", prog_4_method_4_code, 3, (some .boolean), false, zq_rm 1 0 0) 0 0 18 [some (.ref r0), some (.int a1), none] [] (zm_hp m) (zm_QI K) := by
  unfold j_Shape_isComplete_L18 at hJ
  refine zq_iconst (v := 1) d_Shape_isComplete_18 zk_i1 ?_
  exact zq_iret d_Shape_isComplete_19 rfl (zm_isB.nar (Or.inr rfl)) (Nat.le_refl _) (Nat.le_refl _) ⟨_, _, rfl, rfl, hJ⟩
set_option maxHeartbeats 400000 in
theorem s_Shape_isComplete_L45 {g : zk_T} {r0 : Nat} {a1 : Int32} (hr0 : zm_ar r0) {R22 : Int32 → zm → Prop} {K : Int32 → zm → Prop} (hR22 : ∀ {x2 : Int32} {m : zm}, R22 x2 m → zq_V (zk_g g) ("RiichiTable$Shape", prog_4_method_4_code, 3, (some .boolean), false, zq_rm 1 0 0) 0 0 22 [some (.ref r0), some (.int a1), some (.int x2)] [] (zm_hp m) (zm_QI K)) {x2 : Int32} {m : zm} (hJ : j_Shape_isComplete_L45 r0 a1 R22 K x2 m) : zq_V (zk_g g) ("RiichiTable$Shape", prog_4_method_4_code, 3, (some .boolean), false, zq_rm 1 0 0) 0 0 45 [some (.ref r0), some (.int a1), some (.int x2)] [] (zm_hp m) (zm_QI K) := by
  unfold j_Shape_isComplete_L45 at hJ
  refine zr_iinc (d' := 1) d_Shape_isComplete_45 zk_i1 rfl (Nat.le_of_ble_eq_true rfl) (fun y7 hy7 => ?_)
  have hJ := hJ y7 hy7
  refine zr_L (L' := [some (.ref r0), some (.int a1), some (.int y7)]) rfl ?_
  refine zq_goto (tgt := 22) d_Shape_isComplete_48 (by decide) ?_
  refine zr_less (L' := [some (.ref r0), some (.int a1), some (.int y7)]) ⟨rfl, ⟨rfl, ⟨rfl, trivial⟩⟩⟩ ?_
  exact hR22  hJ
set_option maxHeartbeats 400000 in
theorem s_Shape_isComplete_L22 {g : zk_T} {r0 : Nat} {a1 : Int32} (hr0 : zm_ar r0) {K : Int32 → zm → Prop} : ∀ (n : Nat) {x2 : Int32} {m : zm}, j_Shape_isComplete_L22 r0 a1  K n x2 m → zq_V (zk_g g) ("RiichiTable$Shape", prog_4_method_4_code, 3, (some .boolean), false, zq_rm 1 0 0) 0 0 22 [some (.ref r0), some (.int a1), some (.int x2)] [] (zm_hp m) (zm_QI K) := by
  intro n
  induction n with
  | zero =>
    intro x2 m hJ
    exact False.elim hJ
  | succ n ih =>
    intro x2 m hJ
    rw [j_Shape_isComplete_L22] at hJ
    refine zq_iload_n d_Shape_isComplete_22 rfl rfl ?_
    refine zq_bipush (v := 34) d_Shape_isComplete_23 zk_b34 ?_
    refine zq_icmp_ge (tgt := 51) d_Shape_isComplete_25 (by decide) (fun c => ?_) (fun c => ?_)
    · have hJ := hJ.1 c
      refine zq_iconst (v := 0) d_Shape_isComplete_51 zk_i0 ?_
      exact zq_iret d_Shape_isComplete_52 rfl (zm_isB.nar (Or.inl rfl)) (Nat.le_refl _) (Nat.le_refl _) ⟨_, _, rfl, rfl, hJ⟩
    · have hJ := hJ.2 c
      refine zq_aload_n d_Shape_isComplete_28 rfl rfl ?_
      refine zq_iload_n d_Shape_isComplete_29 rfl rfl ?_
      obtain ⟨hb, hJ⟩ := hJ
      refine zm_ald d_Shape_isComplete_30 hr0 hb ?_
      refine zq_iconst (v := 2) d_Shape_isComplete_31 zk_i2 ?_
      refine zq_icmp_lt (tgt := 45) d_Shape_isComplete_32 (by decide) (fun c => ?_) (fun c => ?_)
      · have hJ := hJ.1 c
        refine zr_less (L' := [some (.ref r0), some (.int a1), some (.int x2)]) ⟨rfl, ⟨rfl, ⟨rfl, trivial⟩⟩⟩ ?_
        exact s_Shape_isComplete_L45 hr0 ih  hJ
      · have hJ := hJ.2 c
        refine zq_aload_n d_Shape_isComplete_35 rfl rfl ?_
        refine zq_iload_n d_Shape_isComplete_36 rfl rfl ?_
        refine zr_csI (as := [.ref r0, .int x2]) (st := []) d_Shape_isComplete_37 cc_Shape_20 cs_Shape_isSetsBut (s_Shape_isSetsBut hr0 hJ) rfl ⟨Nat.le_of_ble_eq_true rfl, Nat.le_of_ble_eq_true rfl⟩ (Nat.le_of_ble_eq_true rfl) ⟨Nat.le_refl _, Nat.le_refl _⟩ rfl (fun r6 m5 hJ => ?_)
        refine zq_if_eq (tgt := 45) d_Shape_isComplete_40 (by decide) (fun c => ?_) (fun c => ?_)
        · have hJ := hJ.1 c
          refine zr_less (L' := [some (.ref r0), some (.int a1), some (.int x2)]) ⟨rfl, ⟨rfl, ⟨rfl, trivial⟩⟩⟩ ?_
          exact s_Shape_isComplete_L45 hr0 ih  hJ
        · have hJ := hJ.2 c
          refine zq_iconst (v := 1) d_Shape_isComplete_43 zk_i1 ?_
          exact zq_iret d_Shape_isComplete_44 rfl (zm_isB.nar (Or.inr rfl)) (Nat.le_refl _) (Nat.le_refl _) ⟨_, _, rfl, rfl, hJ⟩
set_option maxHeartbeats 400000 in
theorem s_Shape_isComplete_L20 {g : zk_T} {r0 : Nat} {a1 : Int32} (hr0 : zm_ar r0) {K : Int32 → zm → Prop} {m : zm} (hJ : j_Shape_isComplete_L20 r0 a1  K  m) : zq_V (zk_g g) ("RiichiTable$Shape", prog_4_method_4_code, 3, (some .boolean), false, zq_rm 1 0 0) 0 0 20 [some (.ref r0), some (.int a1), none] [] (zm_hp m) (zm_QI K) := by
  unfold j_Shape_isComplete_L20 at hJ
  refine zq_iconst (v := 0) d_Shape_isComplete_20 zk_i0 ?_
  refine zr_istore_n (L' := [some (.ref r0), some (.int a1), some (.int 0)]) d_Shape_isComplete_21 rfl (Nat.le_of_ble_eq_true rfl) rfl ?_
  refine zr_less (L' := [some (.ref r0), some (.int a1), some (.int 0)]) ⟨rfl, ⟨rfl, ⟨rfl, trivial⟩⟩⟩ ?_
  obtain ⟨n22, hJ⟩ := hJ
  exact s_Shape_isComplete_L22 hr0  n22  hJ
set_option maxHeartbeats 400000 in
theorem s_Shape_isComplete {g : zk_T} {r0 : Nat} {a1 : Int32} (hr0 : zm_ar r0) {K : Int32 → zm → Prop} {m : zm} (hJ : j_Shape_isComplete r0 a1 m K) : zq_Mt (zk_g g) y_Shape_isComplete 1 0 0 [.ref r0, .int a1] (zm_hp m) (zm_QI K) := by
  unfold j_Shape_isComplete at hJ
  refine zq_meth (ini := false) rfl (fun h => by cases h) (Nat.le_of_ble_eq_true rfl) ?_
  refine zr_L (F := ("RiichiTable$Shape", prog_4_method_4_code, 3, (some .boolean), false, zq_rm 1 0 0)) (L' := [some (.ref r0), some (.int a1), none]) rfl ?_
  refine zq_iload_n d_Shape_isComplete_0 rfl rfl ?_
  refine zq_if_ne (tgt := 20) d_Shape_isComplete_1 (by decide) (fun c => ?_) (fun c => ?_)
  · have hJ := hJ.1 c
    refine zr_less (L' := [some (.ref r0), some (.int a1), none]) ⟨rfl, ⟨rfl, trivial⟩⟩ ?_
    exact s_Shape_isComplete_L20 hr0   hJ
  · have hJ := hJ.2 c
    refine zq_aload_n d_Shape_isComplete_4 rfl rfl ?_
    refine zr_csI (as := [.ref r0]) (st := []) d_Shape_isComplete_5 cc_Shape_13 cs_Shape_isSevenPairs (s_Shape_isSevenPairs hr0 hJ) rfl ⟨Nat.le_of_ble_eq_true rfl, Nat.le_of_ble_eq_true rfl⟩ (Nat.le_of_ble_eq_true rfl) ⟨Nat.le_refl _, Nat.le_refl _⟩ rfl (fun r2 m1 hJ => ?_)
    refine zq_if_ne (tgt := 18) d_Shape_isComplete_8 (by decide) (fun c => ?_) (fun c => ?_)
    · have hJ := hJ.1 c
      refine zr_less (L' := [some (.ref r0), some (.int a1), none]) ⟨rfl, ⟨rfl, trivial⟩⟩ ?_
      exact s_Shape_isComplete_L18 hr0   hJ
    · have hJ := hJ.2 c
      refine zq_aload_n d_Shape_isComplete_11 rfl rfl ?_
      refine zr_csI (as := [.ref r0]) (st := []) d_Shape_isComplete_12 cc_Shape_17 cs_Shape_isOrphans (s_Shape_isOrphans hr0 hJ) rfl ⟨Nat.le_of_ble_eq_true rfl, Nat.le_of_ble_eq_true rfl⟩ (Nat.le_of_ble_eq_true rfl) ⟨Nat.le_refl _, Nat.le_refl _⟩ rfl (fun r4 m3 hJ => ?_)
      refine zq_if_eq (tgt := 20) d_Shape_isComplete_15 (by decide) (fun c => ?_) (fun c => ?_)
      · have hJ := hJ.1 c
        refine zr_less (L' := [some (.ref r0), some (.int a1), none]) ⟨rfl, ⟨rfl, trivial⟩⟩ ?_
        exact s_Shape_isComplete_L20 hr0   hJ
      · have hJ := hJ.2 c
        refine zr_less (L' := [some (.ref r0), some (.int a1), none]) ⟨rfl, ⟨rfl, trivial⟩⟩ ?_
        exact s_Shape_isComplete_L18 hr0   hJ
set_option maxHeartbeats 400000 in
theorem s_Player_isWait {g : zk_T} {q : Nat} {a1 : Int32} (hq : zm_pl q) {K : Int32 → zm → Prop} {m : zm} (hJ : j_Player_isWait q a1 m K) : zq_Mt (zk_g g) y_Player_isWait 2 0 0 [.ref q, .int a1] (zm_hp m) (zm_QI K) := by
  unfold j_Player_isWait at hJ
  refine zq_meth (ini := false) rfl (fun h => by cases h) (Nat.le_of_ble_eq_true rfl) ?_
  refine zr_L (F := ("RiichiTable$Player", prog_3_method_14_code, 3, (some .boolean), false, zq_rm 2 0 0)) (L' := [some (.ref q), some (.int a1), none]) rfl ?_
  refine zq_aload_n d_Player_isWait_0 rfl rfl ?_
  refine zq_iload_n d_Player_isWait_1 rfl rfl ?_
  refine zr_cvI (q := q) (as := [.int a1]) (st := []) d_Player_isWait_2 cc_Player_74 cv_Player_countOwned hq.s (s_Player_countOwned hq hJ) rfl ⟨Nat.le_of_ble_eq_true rfl, Nat.le_of_ble_eq_true rfl⟩ (Nat.le_of_ble_eq_true rfl) ⟨Nat.le_refl _, Nat.le_refl _⟩ rfl (fun r2 m1 hJ => ?_)
  refine zq_iconst (v := 4) d_Player_isWait_5 zk_i4 ?_
  refine zq_icmp_lt (tgt := 11) d_Player_isWait_6 (by decide) (fun c => ?_) (fun c => ?_)
  · have hJ := hJ.1 c
    refine zq_aload_n d_Player_isWait_11 rfl rfl ?_
    refine zm_getR fg_Player_9 d_Player_isWait_12 hq.s rfl ?_
    refine zq_iload_n d_Player_isWait_15 rfl rfl ?_
    refine zq_dup2 d_Player_isWait_16 rfl rfl ?_
    obtain ⟨hb, hJ⟩ := hJ
    refine zm_ald d_Player_isWait_17 (zm_pl.c hq) hb ?_
    refine zq_iconst (v := 1) d_Player_isWait_18 zk_i1 ?_
    refine zq_iadd d_Player_isWait_19 ?_
    obtain ⟨hb, hJ⟩ := hJ
    refine zr_ast d_Player_isWait_20 (zm_pl.c hq) hb (fun m3 hm3 => ?_)
    have hJ := hJ m3 hm3
    refine zq_aload_n d_Player_isWait_21 rfl rfl ?_
    refine zm_getR fg_Player_9 d_Player_isWait_22 hq.s rfl ?_
    refine zq_aload_n d_Player_isWait_25 rfl rfl ?_
    refine zm_getI fg_Player_38 d_Player_isWait_26 hq.s rfl ?_
    refine zr_csI (as := [.ref (q + 1), .int (m3.1 q 2)]) (st := []) d_Player_isWait_29 cc_Player_78 cs_Shape_isComplete (s_Shape_isComplete (zm_pl.c hq) hJ) rfl ⟨Nat.le_of_ble_eq_true rfl, Nat.le_of_ble_eq_true rfl⟩ (Nat.le_of_ble_eq_true rfl) ⟨Nat.le_refl _, Nat.le_refl _⟩ rfl (fun r5 m4 hJ => ?_)
    refine zr_istore_n (L' := [some (.ref q), some (.int a1), some (.int r5)]) d_Player_isWait_32 rfl (Nat.le_of_ble_eq_true rfl) rfl ?_
    refine zq_aload_n d_Player_isWait_33 rfl rfl ?_
    refine zm_getR fg_Player_9 d_Player_isWait_34 hq.s rfl ?_
    refine zq_iload_n d_Player_isWait_37 rfl rfl ?_
    refine zq_dup2 d_Player_isWait_38 rfl rfl ?_
    obtain ⟨hb, hJ⟩ := hJ
    refine zm_ald d_Player_isWait_39 (zm_pl.c hq) hb ?_
    refine zq_iconst (v := 1) d_Player_isWait_40 zk_i1 ?_
    refine zq_isub d_Player_isWait_41 ?_
    obtain ⟨hb, hJ⟩ := hJ
    refine zr_ast d_Player_isWait_42 (zm_pl.c hq) hb (fun m6 hm6 => ?_)
    have hJ := hJ m6 hm6
    refine zq_iload_n d_Player_isWait_43 rfl rfl ?_
    exact zq_iret d_Player_isWait_44 rfl hJ.1.nar (Nat.le_refl _) (Nat.le_refl _) ⟨_, _, rfl, rfl, hJ.2⟩
  · have hJ := hJ.2 c
    refine zq_iconst (v := 0) d_Player_isWait_9 zk_i0 ?_
    exact zq_iret d_Player_isWait_10 rfl (zm_isB.nar (Or.inl rfl)) (Nat.le_refl _) (Nat.le_refl _) ⟨_, _, rfl, rfl, hJ⟩
set_option maxHeartbeats 400000 in
theorem s_Player_lacksOne_L41 {g : zk_T} {q : Nat} (hq : zm_pl q) {K : Int32 → zm → Prop} {t0 : Int32} {m : zm} (hJ : j_Player_lacksOne_L41 q  K t0 m) : zq_V (zk_g g) ("RiichiTable$Player", prog_3_method_13_code, 3, (some .boolean), false, zq_rm 0 0 0) 0 0 41 [some (.ref q), none, none] [.int t0] (zm_hp m) (zm_QI K) := by
  unfold j_Player_lacksOne_L41 at hJ
  exact zq_iret d_Player_lacksOne_41 rfl hJ.1.nar (Nat.le_refl _) (Nat.le_refl _) ⟨_, _, rfl, rfl, hJ.2⟩
set_option maxHeartbeats 400000 in
theorem s_Player_lacksOne_L9 {g : zk_T} {q : Nat} (hq : zm_pl q) {K : Int32 → zm → Prop} : ∀ (n : Nat) {x1 : Int32} {x2 : Int32} {m : zm}, j_Player_lacksOne_L9 q  K n x1 x2 m → zq_V (zk_g g) ("RiichiTable$Player", prog_3_method_13_code, 3, (some .boolean), false, zq_rm 0 0 0) 0 0 9 [some (.ref q), some (.int x1), some (.int x2)] [] (zm_hp m) (zm_QI K) := by
  intro n
  induction n with
  | zero =>
    intro x1 x2 m hJ
    exact False.elim hJ
  | succ n ih =>
    intro x1 x2 m hJ
    rw [j_Player_lacksOne_L9] at hJ
    refine zq_iload_n d_Player_lacksOne_9 rfl rfl ?_
    refine zq_bipush (v := 34) d_Player_lacksOne_10 zk_b34 ?_
    refine zq_icmp_ge (tgt := 30) d_Player_lacksOne_12 (by decide) (fun c => ?_) (fun c => ?_)
    · have hJ := hJ.1 c
      refine zq_iload_n d_Player_lacksOne_30 rfl rfl ?_
      refine zq_bipush (v := 13) d_Player_lacksOne_31 zk_b13 ?_
      refine zq_icmp_ne (tgt := 40) d_Player_lacksOne_33 (by decide) (fun c => ?_) (fun c => ?_)
      · have hJ := hJ.1 c
        refine zq_iconst (v := 0) d_Player_lacksOne_40 zk_i0 ?_
        refine zr_less (L' := [some (.ref q), none, none]) ⟨rfl, trivial⟩ ?_
        exact s_Player_lacksOne_L41 hq   hJ
      · have hJ := hJ.2 c
        refine zq_iconst (v := 1) d_Player_lacksOne_36 zk_i1 ?_
        refine zq_goto (tgt := 41) d_Player_lacksOne_37 (by decide) ?_
        refine zr_less (L' := [some (.ref q), none, none]) ⟨rfl, trivial⟩ ?_
        exact s_Player_lacksOne_L41 hq   hJ
    · have hJ := hJ.2 c
      refine zq_iload_n d_Player_lacksOne_15 rfl rfl ?_
      refine zq_aload_n d_Player_lacksOne_16 rfl rfl ?_
      refine zm_getR fg_Player_9 d_Player_lacksOne_17 hq.s rfl ?_
      refine zq_iload_n d_Player_lacksOne_20 rfl rfl ?_
      obtain ⟨hb, hJ⟩ := hJ
      refine zm_ald d_Player_lacksOne_21 (zm_pl.c hq) hb ?_
      refine zq_iadd d_Player_lacksOne_22 ?_
      refine zr_topi (fun y2 hy2 => ?_)
      have hJ := hJ y2 hy2
      refine zr_istore_n (L' := [some (.ref q), some (.int y2), some (.int x2)]) d_Player_lacksOne_23 rfl (Nat.le_of_ble_eq_true rfl) rfl ?_
      refine zr_iinc (d' := 1) d_Player_lacksOne_24 zk_i1 rfl (Nat.le_of_ble_eq_true rfl) (fun y3 hy3 => ?_)
      have hJ := hJ y3 hy3
      refine zr_L (L' := [some (.ref q), some (.int y2), some (.int y3)]) rfl ?_
      refine zq_goto (tgt := 9) d_Player_lacksOne_27 (by decide) ?_
      refine zr_less (L' := [some (.ref q), some (.int y2), some (.int y3)]) ⟨rfl, ⟨rfl, ⟨rfl, trivial⟩⟩⟩ ?_
      exact ih  hJ
set_option maxHeartbeats 400000 in
theorem s_Player_lacksOne {g : zk_T} {q : Nat} (hq : zm_pl q) {K : Int32 → zm → Prop} {m : zm} (hJ : j_Player_lacksOne q m K) : zq_Mt (zk_g g) y_Player_lacksOne 0 0 0 [.ref q] (zm_hp m) (zm_QI K) := by
  unfold j_Player_lacksOne at hJ
  refine zq_meth (ini := false) rfl (fun h => by cases h) (Nat.le_of_ble_eq_true rfl) ?_
  refine zr_L (F := ("RiichiTable$Player", prog_3_method_13_code, 3, (some .boolean), false, zq_rm 0 0 0)) (L' := [some (.ref q), none, none]) rfl ?_
  refine zq_iconst (v := 3) d_Player_lacksOne_0 zk_i3 ?_
  refine zq_aload_n d_Player_lacksOne_1 rfl rfl ?_
  refine zm_getI fg_Player_38 d_Player_lacksOne_2 hq.s rfl ?_
  refine zq_imul d_Player_lacksOne_5 ?_
  refine zr_topi (fun y1 hy1 => ?_)
  have hJ := hJ y1 hy1
  refine zr_istore_n (L' := [some (.ref q), some (.int y1), none]) d_Player_lacksOne_6 rfl (Nat.le_of_ble_eq_true rfl) rfl ?_
  refine zq_iconst (v := 0) d_Player_lacksOne_7 zk_i0 ?_
  refine zr_istore_n (L' := [some (.ref q), some (.int y1), some (.int 0)]) d_Player_lacksOne_8 rfl (Nat.le_of_ble_eq_true rfl) rfl ?_
  refine zr_less (L' := [some (.ref q), some (.int y1), some (.int 0)]) ⟨rfl, ⟨rfl, ⟨rfl, trivial⟩⟩⟩ ?_
  obtain ⟨n9, hJ⟩ := hJ
  exact s_Player_lacksOne_L9 hq  n9  hJ
set_option maxHeartbeats 400000 in
theorem s_Player_findWaits_L31 {g : zk_T} {q : Nat} (hq : zm_pl q) {R11 : Int64 → Int32 → zm → Prop} {K : Int64 → zm → Prop} (hR11 : ∀ {x1 : Int64} {x3 : Int32} {m : zm}, R11 x1 x3 m → zq_V (zk_g g) ("RiichiTable$Player", prog_3_method_12_code, 4, (some .long), false, zq_rm 3 0 0) 0 0 11 [some (.ref q), some (.long x1), none, some (.int x3)] [] (zm_hp m) (zm_QL K)) {x1 : Int64} {x3 : Int32} {m : zm} (hJ : j_Player_findWaits_L31 q R11 K x1 x3 m) : zq_V (zk_g g) ("RiichiTable$Player", prog_3_method_12_code, 4, (some .long), false, zq_rm 3 0 0) 0 0 31 [some (.ref q), some (.long x1), none, some (.int x3)] [] (zm_hp m) (zm_QL K) := by
  unfold j_Player_findWaits_L31 at hJ
  refine zr_iinc (d' := 1) d_Player_findWaits_31 zk_i1 rfl (Nat.le_of_ble_eq_true rfl) (fun y6 hy6 => ?_)
  have hJ := hJ y6 hy6
  refine zr_L (L' := [some (.ref q), some (.long x1), none, some (.int y6)]) rfl ?_
  refine zq_goto (tgt := 11) d_Player_findWaits_34 (by decide) ?_
  refine zr_less (L' := [some (.ref q), some (.long x1), none, some (.int y6)]) ⟨rfl, ⟨rfl, ⟨rfl, trivial⟩⟩⟩ ?_
  exact hR11  hJ
set_option maxHeartbeats 400000 in
theorem s_Player_findWaits_L37 {g : zk_T} {q : Nat} (hq : zm_pl q) {K : Int64 → zm → Prop} {x1 : Int64} {m : zm} (hJ : j_Player_findWaits_L37 q  K x1 m) : zq_V (zk_g g) ("RiichiTable$Player", prog_3_method_12_code, 4, (some .long), false, zq_rm 3 0 0) 0 0 37 [some (.ref q), some (.long x1), none, none] [] (zm_hp m) (zm_QL K) := by
  unfold j_Player_findWaits_L37 at hJ
  refine zq_lload_n d_Player_findWaits_37 rfl rfl ?_
  exact zq_lret d_Player_findWaits_38 rfl (Nat.le_refl _) (Nat.le_refl _) ⟨_, _, rfl, rfl, hJ⟩
set_option maxHeartbeats 400000 in
theorem s_Player_findWaits_L11 {g : zk_T} {q : Nat} (hq : zm_pl q) {K : Int64 → zm → Prop} : ∀ (n : Nat) {x1 : Int64} {x3 : Int32} {m : zm}, j_Player_findWaits_L11 q  K n x1 x3 m → zq_V (zk_g g) ("RiichiTable$Player", prog_3_method_12_code, 4, (some .long), false, zq_rm 3 0 0) 0 0 11 [some (.ref q), some (.long x1), none, some (.int x3)] [] (zm_hp m) (zm_QL K) := by
  intro n
  induction n with
  | zero =>
    intro x1 x3 m hJ
    exact False.elim hJ
  | succ n ih =>
    intro x1 x3 m hJ
    rw [j_Player_findWaits_L11] at hJ
    refine zq_iload_n d_Player_findWaits_11 rfl rfl ?_
    refine zq_bipush (v := 34) d_Player_findWaits_12 zk_b34 ?_
    refine zq_icmp_ge (tgt := 37) d_Player_findWaits_14 (by decide) (fun c => ?_) (fun c => ?_)
    · have hJ := hJ.1 c
      refine zr_less (L' := [some (.ref q), some (.long x1), none, none]) ⟨rfl, ⟨rfl, trivial⟩⟩ ?_
      exact s_Player_findWaits_L37 hq   hJ
    · have hJ := hJ.2 c
      refine zq_aload_n d_Player_findWaits_17 rfl rfl ?_
      refine zq_iload_n d_Player_findWaits_18 rfl rfl ?_
      refine zr_cvI (q := q) (as := [.int x3]) (st := []) d_Player_findWaits_19 cc_Player_70 cv_Player_isWait hq.s (s_Player_isWait hq hJ) rfl ⟨Nat.le_of_ble_eq_true rfl, Nat.le_of_ble_eq_true rfl⟩ (Nat.le_of_ble_eq_true rfl) ⟨Nat.le_refl _, Nat.le_refl _⟩ rfl (fun r4 m3 hJ => ?_)
      refine zq_if_eq (tgt := 31) d_Player_findWaits_22 (by decide) (fun c => ?_) (fun c => ?_)
      · have hJ := hJ.1 c
        refine zr_less (L' := [some (.ref q), some (.long x1), none, some (.int x3)]) ⟨rfl, ⟨rfl, ⟨rfl, trivial⟩⟩⟩ ?_
        exact s_Player_findWaits_L31 hq ih  hJ
      · have hJ := hJ.2 c
        refine zq_lload_n d_Player_findWaits_25 rfl rfl ?_
        refine zq_lconst (v := 1) d_Player_findWaits_26 zk_l1 ?_
        refine zq_iload_n d_Player_findWaits_27 rfl rfl ?_
        refine zq_lshl d_Player_findWaits_28 ?_
        refine zq_lor d_Player_findWaits_29 ?_
        refine zr_topl (fun y5 hy5 => ?_)
        have hJ := hJ y5 hy5
        refine zr_lstore_n (L' := [some (.ref q), some (.long y5), none, some (.int x3)]) d_Player_findWaits_30 rfl (Nat.le_of_ble_eq_true rfl) rfl ?_
        refine zr_less (L' := [some (.ref q), some (.long y5), none, some (.int x3)]) ⟨rfl, ⟨rfl, ⟨rfl, trivial⟩⟩⟩ ?_
        exact s_Player_findWaits_L31 hq ih  hJ
set_option maxHeartbeats 400000 in
theorem s_Player_findWaits {g : zk_T} {q : Nat} (hq : zm_pl q) {K : Int64 → zm → Prop} {m : zm} (hJ : j_Player_findWaits q m K) : zq_Mt (zk_g g) y_Player_findWaits 3 0 0 [.ref q] (zm_hp m) (zm_QL K) := by
  unfold j_Player_findWaits at hJ
  refine zq_meth (ini := false) rfl (fun h => by cases h) (Nat.le_of_ble_eq_true rfl) ?_
  refine zr_L (F := ("RiichiTable$Player", prog_3_method_12_code, 4, (some .long), false, zq_rm 3 0 0)) (L' := [some (.ref q), none, none, none]) rfl ?_
  refine zq_lconst (v := 0) d_Player_findWaits_0 zk_l0 ?_
  refine zr_lstore_n (L' := [some (.ref q), some (.long 0), none, none]) d_Player_findWaits_1 rfl (Nat.le_of_ble_eq_true rfl) rfl ?_
  refine zq_aload_n d_Player_findWaits_2 rfl rfl ?_
  refine zr_cvI (q := q) (as := []) (st := []) d_Player_findWaits_3 cc_Player_66 cv_Player_lacksOne hq.s (s_Player_lacksOne hq hJ) rfl ⟨Nat.le_of_ble_eq_true rfl, Nat.le_of_ble_eq_true rfl⟩ (Nat.le_of_ble_eq_true rfl) ⟨Nat.le_refl _, Nat.le_refl _⟩ rfl (fun r2 m1 hJ => ?_)
  refine zq_if_eq (tgt := 37) d_Player_findWaits_6 (by decide) (fun c => ?_) (fun c => ?_)
  · have hJ := hJ.1 c
    refine zr_less (L' := [some (.ref q), some (.long 0), none, none]) ⟨rfl, ⟨rfl, trivial⟩⟩ ?_
    exact s_Player_findWaits_L37 hq   hJ
  · have hJ := hJ.2 c
    refine zq_iconst (v := 0) d_Player_findWaits_9 zk_i0 ?_
    refine zr_istore_n (L' := [some (.ref q), some (.long 0), none, some (.int 0)]) d_Player_findWaits_10 rfl (Nat.le_of_ble_eq_true rfl) rfl ?_
    refine zr_less (L' := [some (.ref q), some (.long 0), none, some (.int 0)]) ⟨rfl, ⟨rfl, ⟨rfl, trivial⟩⟩⟩ ?_
    obtain ⟨n11, hJ⟩ := hJ
    exact s_Player_findWaits_L11 hq  n11  hJ
set_option maxHeartbeats 400000 in
theorem s_Player_isFuriten_L26 {g : zk_T} {q : Nat} (hq : zm_pl q) {K : Int32 → zm → Prop} {t0 : Int32} {m : zm} (hJ : j_Player_isFuriten_L26 q  K t0 m) : zq_V (zk_g g) ("RiichiTable$Player", prog_3_method_11_code, 1, (some .boolean), false, zq_rm 4 0 0) 0 0 26 [some (.ref q)] [.int t0] (zm_hp m) (zm_QI K) := by
  unfold j_Player_isFuriten_L26 at hJ
  exact zq_iret d_Player_isFuriten_26 rfl hJ.1.nar (Nat.le_refl _) (Nat.le_refl _) ⟨_, _, rfl, rfl, hJ.2⟩
set_option maxHeartbeats 400000 in
theorem s_Player_isFuriten_L21 {g : zk_T} {q : Nat} (hq : zm_pl q) {K : Int32 → zm → Prop} {m : zm} (hJ : j_Player_isFuriten_L21 q  K  m) : zq_V (zk_g g) ("RiichiTable$Player", prog_3_method_11_code, 1, (some .boolean), false, zq_rm 4 0 0) 0 0 21 [some (.ref q)] [] (zm_hp m) (zm_QI K) := by
  unfold j_Player_isFuriten_L21 at hJ
  refine zq_iconst (v := 1) d_Player_isFuriten_21 zk_i1 ?_
  refine zq_goto (tgt := 26) d_Player_isFuriten_22 (by decide) ?_
  refine zr_less (L' := [some (.ref q)]) ⟨rfl, trivial⟩ ?_
  exact s_Player_isFuriten_L26 hq   hJ
set_option maxHeartbeats 400000 in
theorem s_Player_isFuriten {g : zk_T} {q : Nat} (hq : zm_pl q) {K : Int32 → zm → Prop} {m : zm} (hJ : j_Player_isFuriten q m K) : zq_Mt (zk_g g) y_Player_isFuriten 4 0 0 [.ref q] (zm_hp m) (zm_QI K) := by
  unfold j_Player_isFuriten at hJ
  refine zq_meth (ini := false) rfl (fun h => by cases h) (Nat.le_of_ble_eq_true rfl) ?_
  refine zr_L (F := ("RiichiTable$Player", prog_3_method_11_code, 1, (some .boolean), false, zq_rm 4 0 0)) (L' := [some (.ref q)]) rfl ?_
  refine zq_aload_n d_Player_isFuriten_0 rfl rfl ?_
  refine zm_getI fg_Player_55 d_Player_isFuriten_1 hq.s rfl ?_
  refine zq_if_ne (tgt := 21) d_Player_isFuriten_4 (by decide) (fun c => ?_) (fun c => ?_)
  · have hJ := hJ.1 c
    refine zr_less (L' := [some (.ref q)]) ⟨rfl, trivial⟩ ?_
    exact s_Player_isFuriten_L21 hq   hJ
  · have hJ := hJ.2 c
    refine zq_aload_n d_Player_isFuriten_7 rfl rfl ?_
    refine zr_cvL (q := q) (as := []) (st := []) d_Player_isFuriten_8 cc_Player_62 cv_Player_findWaits hq.s (s_Player_findWaits hq hJ) rfl ⟨Nat.le_of_ble_eq_true rfl, Nat.le_of_ble_eq_true rfl⟩ (Nat.le_of_ble_eq_true rfl) ⟨Nat.le_refl _, Nat.le_refl _⟩ rfl (fun r2 m1 hJ => ?_)
    refine zq_aload_n d_Player_isFuriten_11 rfl rfl ?_
    refine zm_getL fg_Player_44 d_Player_isFuriten_12 hq.s rfl ?_
    refine zq_land d_Player_isFuriten_15 ?_
    refine zq_lconst (v := 0) d_Player_isFuriten_16 zk_l0 ?_
    refine zq_lcmp d_Player_isFuriten_17 ?_
    refine zq_if_eq (tgt := 25) d_Player_isFuriten_18 (by decide) (fun c => ?_) (fun c => ?_)
    · have hJ := hJ.1 c
      refine zq_iconst (v := 0) d_Player_isFuriten_25 zk_i0 ?_
      refine zr_less (L' := [some (.ref q)]) ⟨rfl, trivial⟩ ?_
      exact s_Player_isFuriten_L26 hq   hJ
    · have hJ := hJ.2 c
      refine zr_less (L' := [some (.ref q)]) ⟨rfl, trivial⟩ ?_
      exact s_Player_isFuriten_L21 hq   hJ
set_option maxHeartbeats 400000 in
theorem s_Wall_isPlace_L16 {g : zk_T} {a0 : Int32} {K : Int32 → zm → Prop} {t0 : Int32} {m : zm} (hJ : j_Wall_isPlace_L16 a0  K t0 m) : zq_V (zk_g g) ("RiichiTable$Wall", prog_6_method_5_code, 1, (some .boolean), false, zq_rm 0 0 0) 0 0 16 [some (.int a0)] [.int t0] (zm_hp m) (zm_QI K) := by
  unfold j_Wall_isPlace_L16 at hJ
  exact zq_iret d_Wall_isPlace_16 rfl hJ.1.nar (Nat.le_refl _) (Nat.le_refl _) ⟨_, _, rfl, rfl, hJ.2⟩
set_option maxHeartbeats 400000 in
theorem s_Wall_isPlace_L15 {g : zk_T} {a0 : Int32} {K : Int32 → zm → Prop} {m : zm} (hJ : j_Wall_isPlace_L15 a0  K  m) : zq_V (zk_g g) ("RiichiTable$Wall", prog_6_method_5_code, 1, (some .boolean), false, zq_rm 0 0 0) 0 0 15 [some (.int a0)] [] (zm_hp m) (zm_QI K) := by
  unfold j_Wall_isPlace_L15 at hJ
  refine zq_iconst (v := 0) d_Wall_isPlace_15 zk_i0 ?_
  refine zr_less (L' := [some (.int a0)]) ⟨rfl, trivial⟩ ?_
  exact s_Wall_isPlace_L16    hJ
set_option maxHeartbeats 400000 in
theorem s_Wall_isPlace {g : zk_T} {a0 : Int32} {K : Int32 → zm → Prop} {m : zm} (hJ : j_Wall_isPlace a0 m K) : zq_Mt (zk_g g) y_Wall_isPlace 0 0 0 [.int a0] (zm_hp m) (zm_QI K) := by
  unfold j_Wall_isPlace at hJ
  refine zq_meth (ini := false) rfl (fun h => by cases h) (Nat.le_of_ble_eq_true rfl) ?_
  refine zr_L (F := ("RiichiTable$Wall", prog_6_method_5_code, 1, (some .boolean), false, zq_rm 0 0 0)) (L' := [some (.int a0)]) rfl ?_
  refine zq_iload_n d_Wall_isPlace_0 rfl rfl ?_
  refine zq_if_lt (tgt := 15) d_Wall_isPlace_1 (by decide) (fun c => ?_) (fun c => ?_)
  · have hJ := hJ.1 c
    refine zr_less (L' := [some (.int a0)]) ⟨rfl, trivial⟩ ?_
    exact s_Wall_isPlace_L15    hJ
  · have hJ := hJ.2 c
    refine zq_iload_n d_Wall_isPlace_4 rfl rfl ?_
    refine zq_sipush (v := 136) d_Wall_isPlace_5 zk_s136 ?_
    refine zq_icmp_ge (tgt := 15) d_Wall_isPlace_8 (by decide) (fun c => ?_) (fun c => ?_)
    · have hJ := hJ.1 c
      refine zr_less (L' := [some (.int a0)]) ⟨rfl, trivial⟩ ?_
      exact s_Wall_isPlace_L15    hJ
    · have hJ := hJ.2 c
      refine zq_iconst (v := 1) d_Wall_isPlace_11 zk_i1 ?_
      refine zq_goto (tgt := 16) d_Wall_isPlace_12 (by decide) ?_
      refine zr_less (L' := [some (.int a0)]) ⟨rfl, trivial⟩ ?_
      exact s_Wall_isPlace_L16    hJ
set_option maxHeartbeats 400000 in
theorem s_Wall_exchange_L40 {g : zk_T} {a1 : Int32} {a2 : Int32} {K : zm → Prop} {m : zm} (hJ : j_Wall_exchange_L40 a1 a2  K  m) : zq_V (zk_g g) ("RiichiTable$Wall", prog_6_method_4_code, 4, none, false, zq_rm 1 0 0) 0 0 40 [some (.ref 11), some (.int a1), some (.int a2), none] [] (zm_hp m) (zm_QV K) := by
  unfold j_Wall_exchange_L40 at hJ
  exact zq_vret d_Wall_exchange_40 rfl (Nat.le_refl _) (Nat.le_refl _) ⟨_, rfl, rfl, hJ⟩
set_option maxHeartbeats 400000 in
theorem s_Wall_exchange {g : zk_T} {a1 : Int32} {a2 : Int32} {K : zm → Prop} {m : zm} (hJ : j_Wall_exchange a1 a2 m K) : zq_Mt (zk_g g) y_Wall_exchange 1 0 0 [.ref 11, .int a1, .int a2] (zm_hp m) (zm_QV K) := by
  unfold j_Wall_exchange at hJ
  refine zq_meth (ini := false) rfl (fun h => by cases h) (Nat.le_of_ble_eq_true rfl) ?_
  refine zr_L (F := ("RiichiTable$Wall", prog_6_method_4_code, 4, none, false, zq_rm 1 0 0)) (L' := [some (.ref 11), some (.int a1), some (.int a2), none]) rfl ?_
  refine zq_iload_n d_Wall_exchange_0 rfl rfl ?_
  refine zr_csI (as := [.int a1]) (st := []) d_Wall_exchange_1 cc_Wall_34 cs_Wall_isPlace (s_Wall_isPlace  hJ) rfl ⟨Nat.le_of_ble_eq_true rfl, Nat.le_of_ble_eq_true rfl⟩ (Nat.le_of_ble_eq_true rfl) ⟨Nat.le_refl _, Nat.le_refl _⟩ rfl (fun r2 m1 hJ => ?_)
  refine zq_if_eq (tgt := 40) d_Wall_exchange_4 (by decide) (fun c => ?_) (fun c => ?_)
  · have hJ := hJ.1 c
    refine zr_less (L' := [some (.ref 11), some (.int a1), some (.int a2), none]) ⟨rfl, ⟨rfl, ⟨rfl, trivial⟩⟩⟩ ?_
    exact s_Wall_exchange_L40    hJ
  · have hJ := hJ.2 c
    refine zq_iload_n d_Wall_exchange_7 rfl rfl ?_
    refine zr_csI (as := [.int a2]) (st := []) d_Wall_exchange_8 cc_Wall_34 cs_Wall_isPlace (s_Wall_isPlace  hJ) rfl ⟨Nat.le_of_ble_eq_true rfl, Nat.le_of_ble_eq_true rfl⟩ (Nat.le_of_ble_eq_true rfl) ⟨Nat.le_refl _, Nat.le_refl _⟩ rfl (fun r4 m3 hJ => ?_)
    refine zq_if_eq (tgt := 40) d_Wall_exchange_11 (by decide) (fun c => ?_) (fun c => ?_)
    · have hJ := hJ.1 c
      refine zr_less (L' := [some (.ref 11), some (.int a1), some (.int a2), none]) ⟨rfl, ⟨rfl, ⟨rfl, trivial⟩⟩⟩ ?_
      exact s_Wall_exchange_L40    hJ
    · have hJ := hJ.2 c
      refine zq_aload_n d_Wall_exchange_14 rfl rfl ?_
      refine zm_getR fg_Wall_11 d_Wall_exchange_15 zs_Wall rfl ?_
      refine zq_iload_n d_Wall_exchange_18 rfl rfl ?_
      obtain ⟨hb, hJ⟩ := hJ
      refine zm_ald d_Wall_exchange_19 (rfl : zm_sh[12]? = some (.inl (0, 136, .inl (fun _ => 0)))) hb ?_
      refine zr_topi (fun y5 hy5 => ?_)
      have hJ := hJ y5 hy5
      refine zr_istore_n (L' := [some (.ref 11), some (.int a1), some (.int a2), some (.int y5)]) d_Wall_exchange_20 rfl (Nat.le_of_ble_eq_true rfl) rfl ?_
      refine zq_aload_n d_Wall_exchange_21 rfl rfl ?_
      refine zm_getR fg_Wall_11 d_Wall_exchange_22 zs_Wall rfl ?_
      refine zq_iload_n d_Wall_exchange_25 rfl rfl ?_
      refine zq_aload_n d_Wall_exchange_26 rfl rfl ?_
      refine zm_getR fg_Wall_11 d_Wall_exchange_27 zs_Wall rfl ?_
      refine zq_iload_n d_Wall_exchange_30 rfl rfl ?_
      obtain ⟨hb, hJ⟩ := hJ
      refine zm_ald d_Wall_exchange_31 (rfl : zm_sh[12]? = some (.inl (0, 136, .inl (fun _ => 0)))) hb ?_
      obtain ⟨hb, hJ⟩ := hJ
      refine zr_ast d_Wall_exchange_32 (rfl : zm_sh[12]? = some (.inl (0, 136, .inl (fun _ => 0)))) hb (fun m6 hm6 => ?_)
      have hJ := hJ m6 hm6
      refine zq_aload_n d_Wall_exchange_33 rfl rfl ?_
      refine zm_getR fg_Wall_11 d_Wall_exchange_34 zs_Wall rfl ?_
      refine zq_iload_n d_Wall_exchange_37 rfl rfl ?_
      refine zq_iload_n d_Wall_exchange_38 rfl rfl ?_
      obtain ⟨hb, hJ⟩ := hJ
      refine zr_ast d_Wall_exchange_39 (rfl : zm_sh[12]? = some (.inl (0, 136, .inl (fun _ => 0)))) hb (fun m7 hm7 => ?_)
      have hJ := hJ m7 hm7
      refine zr_less (L' := [some (.ref 11), some (.int a1), some (.int a2), none]) ⟨rfl, ⟨rfl, ⟨rfl, trivial⟩⟩⟩ ?_
      exact s_Wall_exchange_L40    hJ
set_option maxHeartbeats 400000 in
theorem s_Wall_pick_L64 {g : zk_T} {a1 : Int32} {K : Int32 → zm → Prop} {t0 : Int32} {m : zm} (hJ : j_Wall_pick_L64 a1  K t0 m) : zq_V (zk_g g) ("RiichiTable$Wall", prog_6_method_3_code, 2, (some .int), false, zq_rm 0 0 0) 0 0 64 [some (.ref 11), some (.int a1)] [.int t0] (zm_hp m) (zm_QI K) := by
  unfold j_Wall_pick_L64 at hJ
  exact zq_iret d_Wall_pick_64 rfl rfl (Nat.le_refl _) (Nat.le_refl _) ⟨_, _, rfl, rfl, hJ⟩
set_option maxHeartbeats 400000 in
theorem s_Wall_pick {g : zk_T} {a1 : Int32} {K : Int32 → zm → Prop} {m : zm} (hJ : j_Wall_pick a1 m K) : zq_Mt (zk_g g) y_Wall_pick 0 0 0 [.ref 11, .int a1] (zm_hp m) (zm_QI K) := by
  unfold j_Wall_pick at hJ
  refine zq_meth (ini := false) rfl (fun h => by cases h) (Nat.le_of_ble_eq_true rfl) ?_
  refine zr_L (F := ("RiichiTable$Wall", prog_6_method_3_code, 2, (some .int), false, zq_rm 0 0 0)) (L' := [some (.ref 11), some (.int a1)]) rfl ?_
  refine zq_aload_n d_Wall_pick_0 rfl rfl ?_
  refine zq_aload_n d_Wall_pick_1 rfl rfl ?_
  refine zm_getI fg_Wall_19 d_Wall_pick_2 zs_Wall rfl ?_
  refine zq_aload_n d_Wall_pick_5 rfl rfl ?_
  refine zm_getI fg_Wall_19 d_Wall_pick_6 zs_Wall rfl ?_
  refine zq_bipush (v := 13) d_Wall_pick_9 zk_b13 ?_
  refine zq_ishl d_Wall_pick_11 ?_
  refine zq_ixor d_Wall_pick_12 ?_
  refine zr_putI fl_Wall_19 d_Wall_pick_13 zs_Wall rfl rfl (fun m1 hm1 => ?_)
  have hJ := hJ m1 hm1
  refine zq_aload_n d_Wall_pick_16 rfl rfl ?_
  refine zq_aload_n d_Wall_pick_17 rfl rfl ?_
  refine zm_getI fg_Wall_19 d_Wall_pick_18 zs_Wall rfl ?_
  refine zq_aload_n d_Wall_pick_21 rfl rfl ?_
  refine zm_getI fg_Wall_19 d_Wall_pick_22 zs_Wall rfl ?_
  refine zq_bipush (v := 17) d_Wall_pick_25 zk_b17 ?_
  refine zq_iushr d_Wall_pick_27 ?_
  refine zq_ixor d_Wall_pick_28 ?_
  refine zr_putI fl_Wall_19 d_Wall_pick_29 zs_Wall rfl rfl (fun m2 hm2 => ?_)
  have hJ := hJ m2 hm2
  refine zq_aload_n d_Wall_pick_32 rfl rfl ?_
  refine zq_aload_n d_Wall_pick_33 rfl rfl ?_
  refine zm_getI fg_Wall_19 d_Wall_pick_34 zs_Wall rfl ?_
  refine zq_aload_n d_Wall_pick_37 rfl rfl ?_
  refine zm_getI fg_Wall_19 d_Wall_pick_38 zs_Wall rfl ?_
  refine zq_iconst (v := 5) d_Wall_pick_41 zk_i5 ?_
  refine zq_ishl d_Wall_pick_42 ?_
  refine zq_ixor d_Wall_pick_43 ?_
  refine zr_putI fl_Wall_19 d_Wall_pick_44 zs_Wall rfl rfl (fun m3 hm3 => ?_)
  have hJ := hJ m3 hm3
  refine zq_iload_n d_Wall_pick_47 rfl rfl ?_
  refine zq_if_le (tgt := 63) d_Wall_pick_48 (by decide) (fun c => ?_) (fun c => ?_)
  · have hJ := hJ.1 c
    refine zq_iconst (v := 0) d_Wall_pick_63 zk_i0 ?_
    refine zr_less (L' := [some (.ref 11), some (.int a1)]) ⟨rfl, ⟨rfl, trivial⟩⟩ ?_
    exact s_Wall_pick_L64    hJ
  · have hJ := hJ.2 c
    refine zq_aload_n d_Wall_pick_51 rfl rfl ?_
    refine zm_getI fg_Wall_19 d_Wall_pick_52 zs_Wall rfl ?_
    refine zq_ldc (v := 2147483647) (zq_in (zq_c1 (List.mem_of_getElem? (i := 234) rfl)) rfl) d_Wall_pick_55 ?_
    refine zq_iand d_Wall_pick_57 ?_
    refine zq_iload_n d_Wall_pick_58 rfl rfl ?_
    obtain ⟨hz, hJ⟩ := hJ
    refine zq_irem d_Wall_pick_59 hz ?_
    refine zq_goto (tgt := 64) d_Wall_pick_60 (by decide) ?_
    refine zr_less (L' := [some (.ref 11), some (.int a1)]) ⟨rfl, ⟨rfl, trivial⟩⟩ ?_
    exact s_Wall_pick_L64    hJ
set_option maxHeartbeats 400000 in
theorem s_Wall_shuffle_L28 {g : zk_T} {K : zm → Prop} : ∀ (n : Nat) {x1 : Int32} {m : zm}, j_Wall_shuffle_L28   K n x1 m → zq_V (zk_g g) ("RiichiTable$Wall", prog_6_method_2_code, 2, none, false, zq_rm 2 0 0) 0 0 28 [some (.ref 11), some (.int x1)] [] (zm_hp m) (zm_QV K) := by
  intro n
  induction n with
  | zero =>
    intro x1 m hJ
    exact False.elim hJ
  | succ n ih =>
    intro x1 m hJ
    rw [j_Wall_shuffle_L28] at hJ
    refine zq_iload_n d_Wall_shuffle_28 rfl rfl ?_
    refine zq_iconst (v := 1) d_Wall_shuffle_29 zk_i1 ?_
    refine zq_icmp_lt (tgt := 51) d_Wall_shuffle_30 (by decide) (fun c => ?_) (fun c => ?_)
    · have hJ := hJ.1 c
      refine zq_aload_n d_Wall_shuffle_51 rfl rfl ?_
      refine zq_bipush (v := 52) d_Wall_shuffle_52 zk_b52 ?_
      refine zr_putI fl_Wall_15 d_Wall_shuffle_54 zs_Wall rfl rfl (fun m3 hm3 => ?_)
      have hJ := hJ m3 hm3
      refine zq_aload_n d_Wall_shuffle_57 rfl rfl ?_
      refine zq_iconst (v := 0) d_Wall_shuffle_58 zk_i0 ?_
      refine zr_putI fl_Wall_30 d_Wall_shuffle_59 zs_Wall rfl rfl (fun m4 hm4 => ?_)
      have hJ := hJ m4 hm4
      exact zq_vret d_Wall_shuffle_62 rfl (Nat.le_refl _) (Nat.le_refl _) ⟨_, rfl, rfl, hJ⟩
    · have hJ := hJ.2 c
      refine zq_aload_n d_Wall_shuffle_33 rfl rfl ?_
      refine zq_iload_n d_Wall_shuffle_34 rfl rfl ?_
      refine zq_aload_n d_Wall_shuffle_35 rfl rfl ?_
      refine zq_iload_n d_Wall_shuffle_36 rfl rfl ?_
      refine zq_iconst (v := 1) d_Wall_shuffle_37 zk_i1 ?_
      refine zq_iadd d_Wall_shuffle_38 ?_
      refine zr_cvI (q := 11) (as := [.int (x1 + 1)]) (st := [.int x1, .ref 11]) d_Wall_shuffle_39 cc_Wall_22 cv_Wall_pick zs_Wall (s_Wall_pick  hJ) rfl ⟨Nat.le_of_ble_eq_true rfl, Nat.le_of_ble_eq_true rfl⟩ (Nat.le_of_ble_eq_true rfl) ⟨Nat.le_refl _, Nat.le_refl _⟩ rfl (fun r6 m5 hJ => ?_)
      refine zr_cvV (q := 11) (as := [.int x1, .int r6]) (st := []) d_Wall_shuffle_42 cc_Wall_26 cv_Wall_exchange zs_Wall (s_Wall_exchange  hJ) rfl ⟨Nat.le_of_ble_eq_true rfl, Nat.le_of_ble_eq_true rfl⟩ (Nat.le_of_ble_eq_true rfl) ⟨Nat.le_refl _, Nat.le_refl _⟩ rfl (fun m7 hJ => ?_)
      refine zr_iinc (d' := (-1)) d_Wall_shuffle_45 zk_im1 rfl (Nat.le_of_ble_eq_true rfl) (fun y8 hy8 => ?_)
      have hJ := hJ y8 hy8
      refine zr_L (L' := [some (.ref 11), some (.int y8)]) rfl ?_
      refine zq_goto (tgt := 28) d_Wall_shuffle_48 (by decide) ?_
      refine zr_less (L' := [some (.ref 11), some (.int y8)]) ⟨rfl, ⟨rfl, trivial⟩⟩ ?_
      exact ih  hJ
set_option maxHeartbeats 400000 in
theorem s_Wall_shuffle_L2 {g : zk_T} {K : zm → Prop} : ∀ (n : Nat) {x1 : Int32} {m : zm}, j_Wall_shuffle_L2   K n x1 m → zq_V (zk_g g) ("RiichiTable$Wall", prog_6_method_2_code, 2, none, false, zq_rm 2 0 0) 0 0 2 [some (.ref 11), some (.int x1)] [] (zm_hp m) (zm_QV K) := by
  intro n
  induction n with
  | zero =>
    intro x1 m hJ
    exact False.elim hJ
  | succ n ih =>
    intro x1 m hJ
    rw [j_Wall_shuffle_L2] at hJ
    refine zq_iload_n d_Wall_shuffle_2 rfl rfl ?_
    refine zq_sipush (v := 136) d_Wall_shuffle_3 zk_s136 ?_
    refine zq_icmp_ge (tgt := 24) d_Wall_shuffle_6 (by decide) (fun c => ?_) (fun c => ?_)
    · have hJ := hJ.1 c
      refine zq_sipush (v := 135) d_Wall_shuffle_24 zk_s135 ?_
      refine zr_istore_n (L' := [some (.ref 11), some (.int 135)]) d_Wall_shuffle_27 rfl (Nat.le_of_ble_eq_true rfl) rfl ?_
      refine zr_less (L' := [some (.ref 11), some (.int 135)]) ⟨rfl, ⟨rfl, trivial⟩⟩ ?_
      obtain ⟨n28, hJ⟩ := hJ
      exact s_Wall_shuffle_L28   n28  hJ
    · have hJ := hJ.2 c
      refine zq_aload_n d_Wall_shuffle_9 rfl rfl ?_
      refine zm_getR fg_Wall_11 d_Wall_shuffle_10 zs_Wall rfl ?_
      refine zq_iload_n d_Wall_shuffle_13 rfl rfl ?_
      refine zq_iload_n d_Wall_shuffle_14 rfl rfl ?_
      refine zq_iconst (v := 4) d_Wall_shuffle_15 zk_i4 ?_
      refine zq_idiv d_Wall_shuffle_16 (by decide) ?_
      obtain ⟨hb, hJ⟩ := hJ
      refine zr_ast d_Wall_shuffle_17 (rfl : zm_sh[12]? = some (.inl (0, 136, .inl (fun _ => 0)))) hb (fun m1 hm1 => ?_)
      have hJ := hJ m1 hm1
      refine zr_iinc (d' := 1) d_Wall_shuffle_18 zk_i1 rfl (Nat.le_of_ble_eq_true rfl) (fun y2 hy2 => ?_)
      have hJ := hJ y2 hy2
      refine zr_L (L' := [some (.ref 11), some (.int y2)]) rfl ?_
      refine zq_goto (tgt := 2) d_Wall_shuffle_21 (by decide) ?_
      refine zr_less (L' := [some (.ref 11), some (.int y2)]) ⟨rfl, ⟨rfl, trivial⟩⟩ ?_
      exact ih  hJ
set_option maxHeartbeats 400000 in
theorem s_Wall_shuffle {g : zk_T} {K : zm → Prop} {m : zm} (hJ : j_Wall_shuffle  m K) : zq_Mt (zk_g g) y_Wall_shuffle 2 0 0 [.ref 11] (zm_hp m) (zm_QV K) := by
  unfold j_Wall_shuffle at hJ
  refine zq_meth (ini := false) rfl (fun h => by cases h) (Nat.le_of_ble_eq_true rfl) ?_
  refine zr_L (F := ("RiichiTable$Wall", prog_6_method_2_code, 2, none, false, zq_rm 2 0 0)) (L' := [some (.ref 11), none]) rfl ?_
  refine zq_iconst (v := 0) d_Wall_shuffle_0 zk_i0 ?_
  refine zr_istore_n (L' := [some (.ref 11), some (.int 0)]) d_Wall_shuffle_1 rfl (Nat.le_of_ble_eq_true rfl) rfl ?_
  refine zr_less (L' := [some (.ref 11), some (.int 0)]) ⟨rfl, ⟨rfl, trivial⟩⟩ ?_
  obtain ⟨n2, hJ⟩ := hJ
  exact s_Wall_shuffle_L2   n2  hJ
set_option maxHeartbeats 400000 in
theorem s_Table_isKind_L15 {g : zk_T} {a0 : Int32} {K : Int32 → zm → Prop} {t0 : Int32} {m : zm} (hJ : j_Table_isKind_L15 a0  K t0 m) : zq_V (zk_g g) ("RiichiTable", prog_1_method_24_code, 1, (some .boolean), false, zq_rm 0 0 0) 0 0 15 [some (.int a0)] [.int t0] (zm_hp m) (zm_QI K) := by
  unfold j_Table_isKind_L15 at hJ
  exact zq_iret d_Table_isKind_15 rfl hJ.1.nar (Nat.le_refl _) (Nat.le_refl _) ⟨_, _, rfl, rfl, hJ.2⟩
set_option maxHeartbeats 400000 in
theorem s_Table_isKind_L14 {g : zk_T} {a0 : Int32} {K : Int32 → zm → Prop} {m : zm} (hJ : j_Table_isKind_L14 a0  K  m) : zq_V (zk_g g) ("RiichiTable", prog_1_method_24_code, 1, (some .boolean), false, zq_rm 0 0 0) 0 0 14 [some (.int a0)] [] (zm_hp m) (zm_QI K) := by
  unfold j_Table_isKind_L14 at hJ
  refine zq_iconst (v := 0) d_Table_isKind_14 zk_i0 ?_
  refine zr_less (L' := [some (.int a0)]) ⟨rfl, trivial⟩ ?_
  exact s_Table_isKind_L15    hJ
set_option maxHeartbeats 400000 in
theorem s_Table_isKind {g : zk_T} {a0 : Int32} {K : Int32 → zm → Prop} {m : zm} (hJ : j_Table_isKind a0 m K) : zq_Mt (zk_g g) y_Table_isKind 0 0 0 [.int a0] (zm_hp m) (zm_QI K) := by
  unfold j_Table_isKind at hJ
  refine zq_meth (ini := false) rfl (fun h => by cases h) (Nat.le_of_ble_eq_true rfl) ?_
  refine zr_L (F := ("RiichiTable", prog_1_method_24_code, 1, (some .boolean), false, zq_rm 0 0 0)) (L' := [some (.int a0)]) rfl ?_
  refine zq_iload_n d_Table_isKind_0 rfl rfl ?_
  refine zq_if_lt (tgt := 14) d_Table_isKind_1 (by decide) (fun c => ?_) (fun c => ?_)
  · have hJ := hJ.1 c
    refine zr_less (L' := [some (.int a0)]) ⟨rfl, trivial⟩ ?_
    exact s_Table_isKind_L14    hJ
  · have hJ := hJ.2 c
    refine zq_iload_n d_Table_isKind_4 rfl rfl ?_
    refine zq_bipush (v := 34) d_Table_isKind_5 zk_b34 ?_
    refine zq_icmp_ge (tgt := 14) d_Table_isKind_7 (by decide) (fun c => ?_) (fun c => ?_)
    · have hJ := hJ.1 c
      refine zr_less (L' := [some (.int a0)]) ⟨rfl, trivial⟩ ?_
      exact s_Table_isKind_L14    hJ
    · have hJ := hJ.2 c
      refine zq_iconst (v := 1) d_Table_isKind_10 zk_i1 ?_
      refine zq_goto (tgt := 15) d_Table_isKind_11 (by decide) ?_
      refine zr_less (L' := [some (.int a0)]) ⟨rfl, trivial⟩ ?_
      exact s_Table_isKind_L15    hJ
set_option maxHeartbeats 400000 in
theorem s_Wall_bringTo_L14 {g : zk_T} {a1 : Int32} {a2 : Int32} {K : Int32 → zm → Prop} {m : zm} (hJ : j_Wall_bringTo_L14 a1 a2  K  m) : zq_V (zk_g g) ("RiichiTable$Wall", prog_6_method_6_code, 4, (some .boolean), false, zq_rm 2 0 0) 0 0 14 [some (.ref 11), some (.int a1), some (.int a2), none] [] (zm_hp m) (zm_QI K) := by
  unfold j_Wall_bringTo_L14 at hJ
  refine zq_iconst (v := 0) d_Wall_bringTo_14 zk_i0 ?_
  exact zq_iret d_Wall_bringTo_15 rfl (zm_isB.nar (Or.inl rfl)) (Nat.le_refl _) (Nat.le_refl _) ⟨_, _, rfl, rfl, hJ⟩
set_option maxHeartbeats 400000 in
theorem s_Wall_bringTo_L18 {g : zk_T} {a1 : Int32} {a2 : Int32} {K : Int32 → zm → Prop} : ∀ (n : Nat) {x3 : Int32} {m : zm}, j_Wall_bringTo_L18 a1 a2  K n x3 m → zq_V (zk_g g) ("RiichiTable$Wall", prog_6_method_6_code, 4, (some .boolean), false, zq_rm 2 0 0) 0 0 18 [some (.ref 11), some (.int a1), some (.int a2), some (.int x3)] [] (zm_hp m) (zm_QI K) := by
  intro n
  induction n with
  | zero =>
    intro x3 m hJ
    exact False.elim hJ
  | succ n ih =>
    intro x3 m hJ
    rw [j_Wall_bringTo_L18] at hJ
    refine zq_iload_n d_Wall_bringTo_18 rfl rfl ?_
    refine zq_sipush (v := 136) d_Wall_bringTo_19 zk_s136 ?_
    refine zq_icmp_ge (tgt := 49) d_Wall_bringTo_22 (by decide) (fun c => ?_) (fun c => ?_)
    · have hJ := hJ.1 c
      refine zq_iconst (v := 0) d_Wall_bringTo_49 zk_i0 ?_
      exact zq_iret d_Wall_bringTo_50 rfl (zm_isB.nar (Or.inl rfl)) (Nat.le_refl _) (Nat.le_refl _) ⟨_, _, rfl, rfl, hJ⟩
    · have hJ := hJ.2 c
      refine zq_aload_n d_Wall_bringTo_25 rfl rfl ?_
      refine zm_getR fg_Wall_11 d_Wall_bringTo_26 zs_Wall rfl ?_
      refine zq_iload_n d_Wall_bringTo_29 rfl rfl ?_
      obtain ⟨hb, hJ⟩ := hJ
      refine zm_ald d_Wall_bringTo_30 (rfl : zm_sh[12]? = some (.inl (0, 136, .inl (fun _ => 0)))) hb ?_
      refine zq_iload_n d_Wall_bringTo_31 rfl rfl ?_
      refine zq_icmp_ne (tgt := 43) d_Wall_bringTo_32 (by decide) (fun c => ?_) (fun c => ?_)
      · have hJ := hJ.1 c
        refine zr_iinc (d' := 1) d_Wall_bringTo_43 zk_i1 rfl (Nat.le_of_ble_eq_true rfl) (fun y5 hy5 => ?_)
        have hJ := hJ y5 hy5
        refine zr_L (L' := [some (.ref 11), some (.int a1), some (.int a2), some (.int y5)]) rfl ?_
        refine zq_goto (tgt := 18) d_Wall_bringTo_46 (by decide) ?_
        refine zr_less (L' := [some (.ref 11), some (.int a1), some (.int a2), some (.int y5)]) ⟨rfl, ⟨rfl, ⟨rfl, ⟨rfl, trivial⟩⟩⟩⟩ ?_
        exact ih  hJ
      · have hJ := hJ.2 c
        refine zq_aload_n d_Wall_bringTo_35 rfl rfl ?_
        refine zq_iload_n d_Wall_bringTo_36 rfl rfl ?_
        refine zq_iload_n d_Wall_bringTo_37 rfl rfl ?_
        refine zr_cvV (q := 11) (as := [.int a1, .int x3]) (st := []) d_Wall_bringTo_38 cc_Wall_26 cv_Wall_exchange zs_Wall (s_Wall_exchange  hJ) rfl ⟨Nat.le_of_ble_eq_true rfl, Nat.le_of_ble_eq_true rfl⟩ (Nat.le_of_ble_eq_true rfl) ⟨Nat.le_refl _, Nat.le_refl _⟩ rfl (fun m6 hJ => ?_)
        refine zq_iconst (v := 1) d_Wall_bringTo_41 zk_i1 ?_
        exact zq_iret d_Wall_bringTo_42 rfl (zm_isB.nar (Or.inr rfl)) (Nat.le_refl _) (Nat.le_refl _) ⟨_, _, rfl, rfl, hJ⟩
set_option maxHeartbeats 400000 in
theorem s_Wall_bringTo {g : zk_T} {a1 : Int32} {a2 : Int32} {K : Int32 → zm → Prop} {m : zm} (hJ : j_Wall_bringTo a1 a2 m K) : zq_Mt (zk_g g) y_Wall_bringTo 2 0 0 [.ref 11, .int a1, .int a2] (zm_hp m) (zm_QI K) := by
  unfold j_Wall_bringTo at hJ
  refine zq_meth (ini := false) rfl (fun h => by cases h) (Nat.le_of_ble_eq_true rfl) ?_
  refine zr_L (F := ("RiichiTable$Wall", prog_6_method_6_code, 4, (some .boolean), false, zq_rm 2 0 0)) (L' := [some (.ref 11), some (.int a1), some (.int a2), none]) rfl ?_
  refine zq_iload_n d_Wall_bringTo_0 rfl rfl ?_
  refine zr_csI (as := [.int a1]) (st := []) d_Wall_bringTo_1 cc_Wall_34 cs_Wall_isPlace (s_Wall_isPlace  hJ) rfl ⟨Nat.le_of_ble_eq_true rfl, Nat.le_of_ble_eq_true rfl⟩ (Nat.le_of_ble_eq_true rfl) ⟨Nat.le_refl _, Nat.le_refl _⟩ rfl (fun r2 m1 hJ => ?_)
  refine zq_if_eq (tgt := 14) d_Wall_bringTo_4 (by decide) (fun c => ?_) (fun c => ?_)
  · have hJ := hJ.1 c
    refine zr_less (L' := [some (.ref 11), some (.int a1), some (.int a2), none]) ⟨rfl, ⟨rfl, ⟨rfl, trivial⟩⟩⟩ ?_
    exact s_Wall_bringTo_L14    hJ
  · have hJ := hJ.2 c
    refine zq_iload_n d_Wall_bringTo_7 rfl rfl ?_
    refine zr_csI (as := [.int a2]) (st := []) d_Wall_bringTo_8 cc_Wall_38 cs_Table_isKind (s_Table_isKind  hJ) rfl ⟨Nat.le_of_ble_eq_true rfl, Nat.le_of_ble_eq_true rfl⟩ (Nat.le_of_ble_eq_true rfl) ⟨Nat.le_refl _, Nat.le_refl _⟩ rfl (fun r4 m3 hJ => ?_)
    refine zq_if_ne (tgt := 16) d_Wall_bringTo_11 (by decide) (fun c => ?_) (fun c => ?_)
    · have hJ := hJ.1 c
      refine zq_iload_n d_Wall_bringTo_16 rfl rfl ?_
      refine zr_istore_n (L' := [some (.ref 11), some (.int a1), some (.int a2), some (.int a1)]) d_Wall_bringTo_17 rfl (Nat.le_of_ble_eq_true rfl) rfl ?_
      refine zr_less (L' := [some (.ref 11), some (.int a1), some (.int a2), some (.int a1)]) ⟨rfl, ⟨rfl, ⟨rfl, ⟨rfl, trivial⟩⟩⟩⟩ ?_
      obtain ⟨n18, hJ⟩ := hJ
      exact s_Wall_bringTo_L18   n18  hJ
    · have hJ := hJ.2 c
      refine zr_less (L' := [some (.ref 11), some (.int a1), some (.int a2), none]) ⟨rfl, ⟨rfl, ⟨rfl, trivial⟩⟩⟩ ?_
      exact s_Wall_bringTo_L14    hJ
set_option maxHeartbeats 400000 in
theorem s_Wall_dealTo_L37 {g : zk_T} {r1 : Nat} {a2 : Int32} (hr1 : zm_ar r1) {R2 : Int32 → zm → Prop} {K : zm → Prop} (hR2 : ∀ {x3 : Int32} {m : zm}, R2 x3 m → zq_V (zk_g g) ("RiichiTable$Wall", prog_6_method_7_code, 5, none, false, zq_rm 1 0 0) 0 0 2 [some (.ref 11), some (.ref r1), some (.int a2), some (.int x3), none] [] (zm_hp m) (zm_QV K)) {x3 : Int32} {m : zm} (hJ : j_Wall_dealTo_L37 r1 a2 R2 K x3 m) : zq_V (zk_g g) ("RiichiTable$Wall", prog_6_method_7_code, 5, none, false, zq_rm 1 0 0) 0 0 37 [some (.ref 11), some (.ref r1), some (.int a2), some (.int x3), none] [] (zm_hp m) (zm_QV K) := by
  unfold j_Wall_dealTo_L37 at hJ
  refine zr_iinc (d' := 1) d_Wall_dealTo_37 zk_i1 rfl (Nat.le_of_ble_eq_true rfl) (fun y5 hy5 => ?_)
  have hJ := hJ y5 hy5
  refine zr_L (L' := [some (.ref 11), some (.ref r1), some (.int a2), some (.int y5), none]) rfl ?_
  refine zq_goto (tgt := 2) d_Wall_dealTo_40 (by decide) ?_
  refine zr_less (L' := [some (.ref 11), some (.ref r1), some (.int a2), some (.int y5), none]) ⟨rfl, ⟨rfl, ⟨rfl, ⟨rfl, trivial⟩⟩⟩⟩ ?_
  exact hR2  hJ
set_option maxHeartbeats 400000 in
theorem s_Wall_dealTo_L2 {g : zk_T} {r1 : Nat} {a2 : Int32} (hr1 : zm_ar r1) {K : zm → Prop} : ∀ (n : Nat) {x3 : Int32} {m : zm}, j_Wall_dealTo_L2 r1 a2  K n x3 m → zq_V (zk_g g) ("RiichiTable$Wall", prog_6_method_7_code, 5, none, false, zq_rm 1 0 0) 0 0 2 [some (.ref 11), some (.ref r1), some (.int a2), some (.int x3), none] [] (zm_hp m) (zm_QV K) := by
  intro n
  induction n with
  | zero =>
    intro x3 m hJ
    exact False.elim hJ
  | succ n ih =>
    intro x3 m hJ
    rw [j_Wall_dealTo_L2] at hJ
    refine zq_iload_n d_Wall_dealTo_2 rfl rfl ?_
    refine zq_bipush (v := 13) d_Wall_dealTo_3 zk_b13 ?_
    refine zq_icmp_ge (tgt := 43) d_Wall_dealTo_5 (by decide) (fun c => ?_) (fun c => ?_)
    · have hJ := hJ.1 c
      exact zq_vret d_Wall_dealTo_43 rfl (Nat.le_refl _) (Nat.le_refl _) ⟨_, rfl, rfl, hJ⟩
    · have hJ := hJ.2 c
      refine zq_bipush (v := 13) d_Wall_dealTo_8 zk_b13 ?_
      refine zq_iload_n d_Wall_dealTo_10 rfl rfl ?_
      refine zq_imul d_Wall_dealTo_11 ?_
      refine zq_iload_n d_Wall_dealTo_12 rfl rfl ?_
      refine zq_iadd d_Wall_dealTo_13 ?_
      refine zr_topi (fun y1 hy1 => ?_)
      have hJ := hJ y1 hy1
      refine zr_istore (L' := [some (.ref 11), some (.ref r1), some (.int a2), some (.int x3), some (.int y1)]) d_Wall_dealTo_14 (Nat.le_of_ble_eq_true rfl) rfl ?_
      refine zq_iload d_Wall_dealTo_16 rfl ?_
      refine zr_csI (as := [.int y1]) (st := []) d_Wall_dealTo_18 cc_Wall_34 cs_Wall_isPlace (s_Wall_isPlace  hJ) rfl ⟨Nat.le_of_ble_eq_true rfl, Nat.le_of_ble_eq_true rfl⟩ (Nat.le_of_ble_eq_true rfl) ⟨Nat.le_refl _, Nat.le_refl _⟩ rfl (fun r3 m2 hJ => ?_)
      refine zq_if_eq (tgt := 37) d_Wall_dealTo_21 (by decide) (fun c => ?_) (fun c => ?_)
      · have hJ := hJ.1 c
        refine zr_less (L' := [some (.ref 11), some (.ref r1), some (.int a2), some (.int x3), none]) ⟨rfl, ⟨rfl, ⟨rfl, ⟨rfl, trivial⟩⟩⟩⟩ ?_
        exact s_Wall_dealTo_L37 hr1 ih  hJ
      · have hJ := hJ.2 c
        refine zq_aload_n d_Wall_dealTo_24 rfl rfl ?_
        refine zq_aload_n d_Wall_dealTo_25 rfl rfl ?_
        refine zm_getR fg_Wall_11 d_Wall_dealTo_26 zs_Wall rfl ?_
        refine zq_iload d_Wall_dealTo_29 rfl ?_
        obtain ⟨hb, hJ⟩ := hJ
        refine zm_ald d_Wall_dealTo_31 (rfl : zm_sh[12]? = some (.inl (0, 136, .inl (fun _ => 0)))) hb ?_
        refine zq_dup2 d_Wall_dealTo_32 rfl rfl ?_
        obtain ⟨hb, hJ⟩ := hJ
        refine zm_ald d_Wall_dealTo_33 hr1 hb ?_
        refine zq_iconst (v := 1) d_Wall_dealTo_34 zk_i1 ?_
        refine zq_iadd d_Wall_dealTo_35 ?_
        obtain ⟨hb, hJ⟩ := hJ
        refine zr_ast d_Wall_dealTo_36 hr1 hb (fun m4 hm4 => ?_)
        have hJ := hJ m4 hm4
        refine zr_less (L' := [some (.ref 11), some (.ref r1), some (.int a2), some (.int x3), none]) ⟨rfl, ⟨rfl, ⟨rfl, ⟨rfl, trivial⟩⟩⟩⟩ ?_
        exact s_Wall_dealTo_L37 hr1 ih  hJ
set_option maxHeartbeats 400000 in
theorem s_Wall_dealTo {g : zk_T} {r1 : Nat} {a2 : Int32} (hr1 : zm_ar r1) {K : zm → Prop} {m : zm} (hJ : j_Wall_dealTo r1 a2 m K) : zq_Mt (zk_g g) y_Wall_dealTo 1 0 0 [.ref 11, .ref r1, .int a2] (zm_hp m) (zm_QV K) := by
  unfold j_Wall_dealTo at hJ
  refine zq_meth (ini := false) rfl (fun h => by cases h) (Nat.le_of_ble_eq_true rfl) ?_
  refine zr_L (F := ("RiichiTable$Wall", prog_6_method_7_code, 5, none, false, zq_rm 1 0 0)) (L' := [some (.ref 11), some (.ref r1), some (.int a2), none, none]) rfl ?_
  refine zq_iconst (v := 0) d_Wall_dealTo_0 zk_i0 ?_
  refine zr_istore_n (L' := [some (.ref 11), some (.ref r1), some (.int a2), some (.int 0), none]) d_Wall_dealTo_1 rfl (Nat.le_of_ble_eq_true rfl) rfl ?_
  refine zr_less (L' := [some (.ref 11), some (.ref r1), some (.int a2), some (.int 0), none]) ⟨rfl, ⟨rfl, ⟨rfl, ⟨rfl, trivial⟩⟩⟩⟩ ?_
  obtain ⟨n2, hJ⟩ := hJ
  exact s_Wall_dealTo_L2 hr1  n2  hJ
set_option maxHeartbeats 400000 in
theorem s_Wall_countLeft {g : zk_T} {K : Int32 → zm → Prop} {m : zm} (hJ : j_Wall_countLeft  m K) : zq_Mt (zk_g g) y_Wall_countLeft 1 0 0 [.ref 11] (zm_hp m) (zm_QI K) := by
  unfold j_Wall_countLeft at hJ
  refine zq_meth (ini := false) rfl (fun h => by cases h) (Nat.le_of_ble_eq_true rfl) ?_
  refine zr_L (F := ("RiichiTable$Wall", prog_6_method_8_code, 1, (some .int), false, zq_rm 1 0 0)) (L' := [some (.ref 11)]) rfl ?_
  refine zq_iconst (v := 0) d_Wall_countLeft_0 zk_i0 ?_
  refine zq_bipush (v := 122) d_Wall_countLeft_1 zk_b122 ?_
  refine zq_aload_n d_Wall_countLeft_3 rfl rfl ?_
  refine zm_getI fg_Wall_30 d_Wall_countLeft_4 zs_Wall rfl ?_
  refine zq_isub d_Wall_countLeft_7 ?_
  refine zq_aload_n d_Wall_countLeft_8 rfl rfl ?_
  refine zm_getI fg_Wall_15 d_Wall_countLeft_9 zs_Wall rfl ?_
  refine zq_isub d_Wall_countLeft_12 ?_
  refine zq_mmax d_Wall_countLeft_13 (zq_in (zq_c2 (List.mem_of_getElem? (i := 104) rfl)) rfl) (zq_in (zq_c2 (List.mem_of_getElem? (i := 105) rfl)) rfl) (zq_in (zq_c1 (List.mem_of_getElem? (i := 9) rfl)) rfl) (zq_in (zq_c2 (List.mem_of_getElem? (i := 106) rfl)) rfl) (Nat.le_of_ble_eq_true rfl) (Nat.le_of_ble_eq_true rfl) (Nat.le_refl _) (Nat.le_refl _) ?_
  exact zq_iret d_Wall_countLeft_16 rfl rfl (Nat.le_refl _) (Nat.le_refl _) ⟨_, _, rfl, rfl, hJ⟩
set_option maxHeartbeats 400000 in
theorem s_Wall_drawTile_L23 {g : zk_T} {K : Int32 → zm → Prop} {t0 : Int32} {m : zm} (hJ : j_Wall_drawTile_L23   K t0 m) : zq_V (zk_g g) ("RiichiTable$Wall", prog_6_method_9_code, 2, (some .int), false, zq_rm 1 0 0) 0 0 23 [some (.ref 11), none] [.int t0] (zm_hp m) (zm_QI K) := by
  unfold j_Wall_drawTile_L23 at hJ
  refine zr_istore_n (L' := [some (.ref 11), some (.int t0)]) d_Wall_drawTile_23 rfl (Nat.le_of_ble_eq_true rfl) rfl ?_
  refine zq_aload_n d_Wall_drawTile_24 rfl rfl ?_
  refine zq_dup d_Wall_drawTile_25 rfl ?_
  refine zm_getI fg_Wall_15 d_Wall_drawTile_26 zs_Wall rfl ?_
  refine zq_iconst (v := 1) d_Wall_drawTile_29 zk_i1 ?_
  refine zq_iadd d_Wall_drawTile_30 ?_
  refine zr_putI fl_Wall_15 d_Wall_drawTile_31 zs_Wall rfl rfl (fun m3 hm3 => ?_)
  have hJ := hJ m3 hm3
  refine zq_iload_n d_Wall_drawTile_34 rfl rfl ?_
  exact zq_iret d_Wall_drawTile_35 rfl rfl (Nat.le_refl _) (Nat.le_refl _) ⟨_, _, rfl, rfl, hJ⟩
set_option maxHeartbeats 400000 in
theorem s_Wall_drawTile {g : zk_T} {K : Int32 → zm → Prop} {m : zm} (hJ : j_Wall_drawTile  m K) : zq_Mt (zk_g g) y_Wall_drawTile 1 0 0 [.ref 11] (zm_hp m) (zm_QI K) := by
  unfold j_Wall_drawTile at hJ
  refine zq_meth (ini := false) rfl (fun h => by cases h) (Nat.le_of_ble_eq_true rfl) ?_
  refine zr_L (F := ("RiichiTable$Wall", prog_6_method_9_code, 2, (some .int), false, zq_rm 1 0 0)) (L' := [some (.ref 11), none]) rfl ?_
  refine zq_aload_n d_Wall_drawTile_0 rfl rfl ?_
  refine zm_getI fg_Wall_15 d_Wall_drawTile_1 zs_Wall rfl ?_
  refine zr_csI (as := [.int (m.1 11 2)]) (st := []) d_Wall_drawTile_4 cc_Wall_34 cs_Wall_isPlace (s_Wall_isPlace  hJ) rfl ⟨Nat.le_of_ble_eq_true rfl, Nat.le_of_ble_eq_true rfl⟩ (Nat.le_of_ble_eq_true rfl) ⟨Nat.le_refl _, Nat.le_refl _⟩ rfl (fun r2 m1 hJ => ?_)
  refine zq_if_eq (tgt := 22) d_Wall_drawTile_7 (by decide) (fun c => ?_) (fun c => ?_)
  · have hJ := hJ.1 c
    refine zq_iconst (v := 0) d_Wall_drawTile_22 zk_i0 ?_
    refine zr_less (L' := [some (.ref 11), none]) ⟨rfl, trivial⟩ ?_
    exact s_Wall_drawTile_L23    hJ
  · have hJ := hJ.2 c
    refine zq_aload_n d_Wall_drawTile_10 rfl rfl ?_
    refine zm_getR fg_Wall_11 d_Wall_drawTile_11 zs_Wall rfl ?_
    refine zq_aload_n d_Wall_drawTile_14 rfl rfl ?_
    refine zm_getI fg_Wall_15 d_Wall_drawTile_15 zs_Wall rfl ?_
    obtain ⟨hb, hJ⟩ := hJ
    refine zm_ald d_Wall_drawTile_18 (rfl : zm_sh[12]? = some (.inl (0, 136, .inl (fun _ => 0)))) hb ?_
    refine zq_goto (tgt := 23) d_Wall_drawTile_19 (by decide) ?_
    refine zr_less (L' := [some (.ref 11), none]) ⟨rfl, trivial⟩ ?_
    exact s_Wall_drawTile_L23    hJ
set_option maxHeartbeats 400000 in
theorem s_Wall_drawReplacement_L36 {g : zk_T} {K : Int32 → zm → Prop} {t0 : Int32} {m : zm} (hJ : j_Wall_drawReplacement_L36   K t0 m) : zq_V (zk_g g) ("RiichiTable$Wall", prog_6_method_10_code, 2, (some .int), false, zq_rm 1 0 0) 0 0 36 [some (.ref 11), none] [.int t0] (zm_hp m) (zm_QI K) := by
  unfold j_Wall_drawReplacement_L36 at hJ
  exact zq_iret d_Wall_drawReplacement_36 rfl rfl (Nat.le_refl _) (Nat.le_refl _) ⟨_, _, rfl, rfl, hJ⟩
set_option maxHeartbeats 400000 in
theorem s_Wall_drawReplacement {g : zk_T} {K : Int32 → zm → Prop} {m : zm} (hJ : j_Wall_drawReplacement  m K) : zq_Mt (zk_g g) y_Wall_drawReplacement 1 0 0 [.ref 11] (zm_hp m) (zm_QI K) := by
  unfold j_Wall_drawReplacement at hJ
  refine zq_meth (ini := false) rfl (fun h => by cases h) (Nat.le_of_ble_eq_true rfl) ?_
  refine zr_L (F := ("RiichiTable$Wall", prog_6_method_10_code, 2, (some .int), false, zq_rm 1 0 0)) (L' := [some (.ref 11), none]) rfl ?_
  refine zq_sipush (v := 135) d_Wall_drawReplacement_0 zk_s135 ?_
  refine zq_aload_n d_Wall_drawReplacement_3 rfl rfl ?_
  refine zm_getI fg_Wall_30 d_Wall_drawReplacement_4 zs_Wall rfl ?_
  refine zq_isub d_Wall_drawReplacement_7 ?_
  refine zr_topi (fun y1 hy1 => ?_)
  have hJ := hJ y1 hy1
  refine zr_istore_n (L' := [some (.ref 11), some (.int y1)]) d_Wall_drawReplacement_8 rfl (Nat.le_of_ble_eq_true rfl) rfl ?_
  refine zq_aload_n d_Wall_drawReplacement_9 rfl rfl ?_
  refine zq_dup d_Wall_drawReplacement_10 rfl ?_
  refine zm_getI fg_Wall_30 d_Wall_drawReplacement_11 zs_Wall rfl ?_
  refine zq_iconst (v := 1) d_Wall_drawReplacement_14 zk_i1 ?_
  refine zq_iadd d_Wall_drawReplacement_15 ?_
  refine zr_putI fl_Wall_30 d_Wall_drawReplacement_16 zs_Wall rfl rfl (fun m2 hm2 => ?_)
  have hJ := hJ m2 hm2
  refine zq_iload_n d_Wall_drawReplacement_19 rfl rfl ?_
  refine zr_csI (as := [.int y1]) (st := []) d_Wall_drawReplacement_20 cc_Wall_34 cs_Wall_isPlace (s_Wall_isPlace  hJ) rfl ⟨Nat.le_of_ble_eq_true rfl, Nat.le_of_ble_eq_true rfl⟩ (Nat.le_of_ble_eq_true rfl) ⟨Nat.le_refl _, Nat.le_refl _⟩ rfl (fun r4 m3 hJ => ?_)
  refine zq_if_eq (tgt := 35) d_Wall_drawReplacement_23 (by decide) (fun c => ?_) (fun c => ?_)
  · have hJ := hJ.1 c
    refine zq_iconst (v := 0) d_Wall_drawReplacement_35 zk_i0 ?_
    refine zr_less (L' := [some (.ref 11), none]) ⟨rfl, trivial⟩ ?_
    exact s_Wall_drawReplacement_L36    hJ
  · have hJ := hJ.2 c
    refine zq_aload_n d_Wall_drawReplacement_26 rfl rfl ?_
    refine zm_getR fg_Wall_11 d_Wall_drawReplacement_27 zs_Wall rfl ?_
    refine zq_iload_n d_Wall_drawReplacement_30 rfl rfl ?_
    obtain ⟨hb, hJ⟩ := hJ
    refine zm_ald d_Wall_drawReplacement_31 (rfl : zm_sh[12]? = some (.inl (0, 136, .inl (fun _ => 0)))) hb ?_
    refine zq_goto (tgt := 36) d_Wall_drawReplacement_32 (by decide) ?_
    refine zr_less (L' := [some (.ref 11), none]) ⟨rfl, trivial⟩ ?_
    exact s_Wall_drawReplacement_L36    hJ
set_option maxHeartbeats 400000 in
theorem s_Wall_kindBehind_L25 {g : zk_T} {a0 : Int32} {K : Int32 → zm → Prop} {t0 : Int32} {m : zm} (hJ : j_Wall_kindBehind_L25 a0  K t0 m) : zq_V (zk_g g) ("RiichiTable$Wall", prog_6_method_12_code, 1, (some .int), false, zq_rm 0 0 0) 0 0 25 [some (.int a0)] [.int t0] (zm_hp m) (zm_QI K) := by
  unfold j_Wall_kindBehind_L25 at hJ
  exact zq_iret d_Wall_kindBehind_25 rfl rfl (Nat.le_refl _) (Nat.le_refl _) ⟨_, _, rfl, rfl, hJ⟩
set_option maxHeartbeats 400000 in
theorem s_Wall_kindBehind_L46 {g : zk_T} {a0 : Int32} {K : Int32 → zm → Prop} {t0 : Int32} {m : zm} (hJ : j_Wall_kindBehind_L46 a0  K t0 m) : zq_V (zk_g g) ("RiichiTable$Wall", prog_6_method_12_code, 1, (some .int), false, zq_rm 0 0 0) 0 0 46 [some (.int a0)] [.int t0] (zm_hp m) (zm_QI K) := by
  unfold j_Wall_kindBehind_L46 at hJ
  exact zq_iret d_Wall_kindBehind_46 rfl rfl (Nat.le_refl _) (Nat.le_refl _) ⟨_, _, rfl, rfl, hJ⟩
set_option maxHeartbeats 400000 in
theorem s_Wall_kindBehind_L61 {g : zk_T} {a0 : Int32} {K : Int32 → zm → Prop} {t0 : Int32} {m : zm} (hJ : j_Wall_kindBehind_L61 a0  K t0 m) : zq_V (zk_g g) ("RiichiTable$Wall", prog_6_method_12_code, 1, (some .int), false, zq_rm 0 0 0) 0 0 61 [some (.int a0)] [.int t0] (zm_hp m) (zm_QI K) := by
  unfold j_Wall_kindBehind_L61 at hJ
  exact zq_iret d_Wall_kindBehind_61 rfl rfl (Nat.le_refl _) (Nat.le_refl _) ⟨_, _, rfl, rfl, hJ⟩
set_option maxHeartbeats 400000 in
theorem s_Wall_kindBehind {g : zk_T} {a0 : Int32} {K : Int32 → zm → Prop} {m : zm} (hJ : j_Wall_kindBehind a0 m K) : zq_Mt (zk_g g) y_Wall_kindBehind 0 0 0 [.int a0] (zm_hp m) (zm_QI K) := by
  unfold j_Wall_kindBehind at hJ
  refine zq_meth (ini := false) rfl (fun h => by cases h) (Nat.le_of_ble_eq_true rfl) ?_
  refine zr_L (F := ("RiichiTable$Wall", prog_6_method_12_code, 1, (some .int), false, zq_rm 0 0 0)) (L' := [some (.int a0)]) rfl ?_
  refine zq_iload_n d_Wall_kindBehind_0 rfl rfl ?_
  refine zq_bipush (v := 27) d_Wall_kindBehind_1 zk_b27 ?_
  refine zq_icmp_ge (tgt := 26) d_Wall_kindBehind_3 (by decide) (fun c => ?_) (fun c => ?_)
  · have hJ := hJ.1 c
    refine zq_iload_n d_Wall_kindBehind_26 rfl rfl ?_
    refine zq_bipush (v := 31) d_Wall_kindBehind_27 zk_b31 ?_
    refine zq_icmp_ge (tgt := 47) d_Wall_kindBehind_29 (by decide) (fun c => ?_) (fun c => ?_)
    · have hJ := hJ.1 c
      refine zq_iload_n d_Wall_kindBehind_47 rfl rfl ?_
      refine zq_bipush (v := 33) d_Wall_kindBehind_48 zk_b33 ?_
      refine zq_icmp_ne (tgt := 58) d_Wall_kindBehind_50 (by decide) (fun c => ?_) (fun c => ?_)
      · have hJ := hJ.1 c
        refine zq_iload_n d_Wall_kindBehind_58 rfl rfl ?_
        refine zq_iconst (v := 1) d_Wall_kindBehind_59 zk_i1 ?_
        refine zq_iadd d_Wall_kindBehind_60 ?_
        refine zr_less (L' := [some (.int a0)]) ⟨rfl, trivial⟩ ?_
        exact s_Wall_kindBehind_L61    hJ
      · have hJ := hJ.2 c
        refine zq_bipush (v := 31) d_Wall_kindBehind_53 zk_b31 ?_
        refine zq_goto (tgt := 61) d_Wall_kindBehind_55 (by decide) ?_
        refine zr_less (L' := [some (.int a0)]) ⟨rfl, trivial⟩ ?_
        exact s_Wall_kindBehind_L61    hJ
    · have hJ := hJ.2 c
      refine zq_iload_n d_Wall_kindBehind_32 rfl rfl ?_
      refine zq_bipush (v := 30) d_Wall_kindBehind_33 zk_b30 ?_
      refine zq_icmp_ne (tgt := 43) d_Wall_kindBehind_35 (by decide) (fun c => ?_) (fun c => ?_)
      · have hJ := hJ.1 c
        refine zq_iload_n d_Wall_kindBehind_43 rfl rfl ?_
        refine zq_iconst (v := 1) d_Wall_kindBehind_44 zk_i1 ?_
        refine zq_iadd d_Wall_kindBehind_45 ?_
        refine zr_less (L' := [some (.int a0)]) ⟨rfl, trivial⟩ ?_
        exact s_Wall_kindBehind_L46    hJ
      · have hJ := hJ.2 c
        refine zq_bipush (v := 27) d_Wall_kindBehind_38 zk_b27 ?_
        refine zq_goto (tgt := 46) d_Wall_kindBehind_40 (by decide) ?_
        refine zr_less (L' := [some (.int a0)]) ⟨rfl, trivial⟩ ?_
        exact s_Wall_kindBehind_L46    hJ
  · have hJ := hJ.2 c
    refine zq_iload_n d_Wall_kindBehind_6 rfl rfl ?_
    refine zq_bipush (v := 9) d_Wall_kindBehind_7 zk_b9 ?_
    refine zq_irem d_Wall_kindBehind_9 (by decide) ?_
    refine zq_bipush (v := 8) d_Wall_kindBehind_10 zk_b8 ?_
    refine zq_icmp_ne (tgt := 22) d_Wall_kindBehind_12 (by decide) (fun c => ?_) (fun c => ?_)
    · have hJ := hJ.1 c
      refine zq_iload_n d_Wall_kindBehind_22 rfl rfl ?_
      refine zq_iconst (v := 1) d_Wall_kindBehind_23 zk_i1 ?_
      refine zq_iadd d_Wall_kindBehind_24 ?_
      refine zr_less (L' := [some (.int a0)]) ⟨rfl, trivial⟩ ?_
      exact s_Wall_kindBehind_L25    hJ
    · have hJ := hJ.2 c
      refine zq_iload_n d_Wall_kindBehind_15 rfl rfl ?_
      refine zq_bipush (v := 8) d_Wall_kindBehind_16 zk_b8 ?_
      refine zq_isub d_Wall_kindBehind_18 ?_
      refine zq_goto (tgt := 25) d_Wall_kindBehind_19 (by decide) ?_
      refine zr_less (L' := [some (.int a0)]) ⟨rfl, trivial⟩ ?_
      exact s_Wall_kindBehind_L25    hJ
set_option maxHeartbeats 400000 in
theorem s_Wall_countDora_L66 {g : zk_T} {r1 : Nat} {a2 : Int32} (hr1 : zm_ar r1) {R5 : Int32 → Int32 → zm → Prop} {K : Int32 → zm → Prop} (hR5 : ∀ {x3 : Int32} {x4 : Int32} {m : zm}, R5 x3 x4 m → zq_V (zk_g g) ("RiichiTable$Wall", prog_6_method_11_code, 5, (some .int), false, zq_rm 1 0 0) 0 0 5 [some (.ref 11), some (.ref r1), some (.int a2), some (.int x3), some (.int x4)] [] (zm_hp m) (zm_QI K)) {x3 : Int32} {x4 : Int32} {m : zm} (hJ : j_Wall_countDora_L66 r1 a2 R5 K x3 x4 m) : zq_V (zk_g g) ("RiichiTable$Wall", prog_6_method_11_code, 5, (some .int), false, zq_rm 1 0 0) 0 0 66 [some (.ref 11), some (.ref r1), some (.int a2), some (.int x3), some (.int x4)] [] (zm_hp m) (zm_QI K) := by
  unfold j_Wall_countDora_L66 at hJ
  refine zr_iinc (d' := 1) d_Wall_countDora_66 zk_i1 rfl (Nat.le_of_ble_eq_true rfl) (fun y7 hy7 => ?_)
  have hJ := hJ y7 hy7
  refine zr_L (L' := [some (.ref 11), some (.ref r1), some (.int a2), some (.int x3), some (.int y7)]) rfl ?_
  refine zq_goto (tgt := 5) d_Wall_countDora_69 (by decide) ?_
  refine zr_less (L' := [some (.ref 11), some (.ref r1), some (.int a2), some (.int x3), some (.int y7)]) ⟨rfl, ⟨rfl, ⟨rfl, ⟨rfl, ⟨rfl, trivial⟩⟩⟩⟩⟩ ?_
  exact hR5  hJ
set_option maxHeartbeats 400000 in
theorem s_Wall_countDora_L72 {g : zk_T} {r1 : Nat} {a2 : Int32} (hr1 : zm_ar r1) {K : Int32 → zm → Prop} {x3 : Int32} {m : zm} (hJ : j_Wall_countDora_L72 r1 a2  K x3 m) : zq_V (zk_g g) ("RiichiTable$Wall", prog_6_method_11_code, 5, (some .int), false, zq_rm 1 0 0) 0 0 72 [some (.ref 11), some (.ref r1), some (.int a2), some (.int x3), none] [] (zm_hp m) (zm_QI K) := by
  unfold j_Wall_countDora_L72 at hJ
  refine zq_iload_n d_Wall_countDora_72 rfl rfl ?_
  exact zq_iret d_Wall_countDora_73 rfl rfl (Nat.le_refl _) (Nat.le_refl _) ⟨_, _, rfl, rfl, hJ⟩
set_option maxHeartbeats 400000 in
theorem s_Wall_countDora_L5 {g : zk_T} {r1 : Nat} {a2 : Int32} (hr1 : zm_ar r1) {K : Int32 → zm → Prop} : ∀ (n : Nat) {x3 : Int32} {x4 : Int32} {m : zm}, j_Wall_countDora_L5 r1 a2  K n x3 x4 m → zq_V (zk_g g) ("RiichiTable$Wall", prog_6_method_11_code, 5, (some .int), false, zq_rm 1 0 0) 0 0 5 [some (.ref 11), some (.ref r1), some (.int a2), some (.int x3), some (.int x4)] [] (zm_hp m) (zm_QI K) := by
  intro n
  induction n with
  | zero =>
    intro x3 x4 m hJ
    exact False.elim hJ
  | succ n ih =>
    intro x3 x4 m hJ
    rw [j_Wall_countDora_L5] at hJ
    refine zq_iload d_Wall_countDora_5 rfl ?_
    refine zq_aload_n d_Wall_countDora_7 rfl rfl ?_
    refine zm_getI fg_Wall_30 d_Wall_countDora_8 zs_Wall rfl ?_
    refine zq_icmp_gt (tgt := 72) d_Wall_countDora_11 (by decide) (fun c => ?_) (fun c => ?_)
    · have hJ := hJ.1 c
      refine zr_less (L' := [some (.ref 11), some (.ref r1), some (.int a2), some (.int x3), none]) ⟨rfl, ⟨rfl, ⟨rfl, ⟨rfl, trivial⟩⟩⟩⟩ ?_
      exact s_Wall_countDora_L72 hr1   hJ
    · have hJ := hJ.2 c
      refine zq_iload d_Wall_countDora_14 rfl ?_
      refine zq_iconst (v := 4) d_Wall_countDora_16 zk_i4 ?_
      refine zq_icmp_gt (tgt := 72) d_Wall_countDora_17 (by decide) (fun c => ?_) (fun c => ?_)
      · have hJ := hJ.1 c
        refine zr_less (L' := [some (.ref 11), some (.ref r1), some (.int a2), some (.int x3), none]) ⟨rfl, ⟨rfl, ⟨rfl, ⟨rfl, trivial⟩⟩⟩⟩ ?_
        exact s_Wall_countDora_L72 hr1   hJ
      · have hJ := hJ.2 c
        refine zq_iload_n d_Wall_countDora_20 rfl rfl ?_
        refine zq_aload_n d_Wall_countDora_21 rfl rfl ?_
        refine zq_aload_n d_Wall_countDora_22 rfl rfl ?_
        refine zm_getR fg_Wall_11 d_Wall_countDora_23 zs_Wall rfl ?_
        refine zq_sipush (v := 131) d_Wall_countDora_26 zk_s131 ?_
        refine zq_iconst (v := 2) d_Wall_countDora_29 zk_i2 ?_
        refine zq_iload d_Wall_countDora_30 rfl ?_
        refine zq_imul d_Wall_countDora_32 ?_
        refine zq_isub d_Wall_countDora_33 ?_
        obtain ⟨hb, hJ⟩ := hJ
        refine zm_ald d_Wall_countDora_34 (rfl : zm_sh[12]? = some (.inl (0, 136, .inl (fun _ => 0)))) hb ?_
        refine zr_csI (as := [.int (m.1 12 (Int32.toNatClampNeg (131 - (2 * x4))))]) (st := [.ref r1, .int x3]) d_Wall_countDora_35 cc_Wall_47 cs_Wall_kindBehind (s_Wall_kindBehind  hJ) rfl ⟨Nat.le_of_ble_eq_true rfl, Nat.le_of_ble_eq_true rfl⟩ (Nat.le_of_ble_eq_true rfl) ⟨Nat.le_refl _, Nat.le_refl _⟩ rfl (fun r2 m1 hJ => ?_)
        obtain ⟨hb, hJ⟩ := hJ
        refine zm_ald d_Wall_countDora_38 hr1 hb ?_
        refine zq_iadd d_Wall_countDora_39 ?_
        refine zr_topi (fun y3 hy3 => ?_)
        have hJ := hJ y3 hy3
        refine zr_istore_n (L' := [some (.ref 11), some (.ref r1), some (.int a2), some (.int y3), some (.int x4)]) d_Wall_countDora_40 rfl (Nat.le_of_ble_eq_true rfl) rfl ?_
        refine zq_iload_n d_Wall_countDora_41 rfl rfl ?_
        refine zq_if_eq (tgt := 66) d_Wall_countDora_42 (by decide) (fun c => ?_) (fun c => ?_)
        · have hJ := hJ.1 c
          refine zr_less (L' := [some (.ref 11), some (.ref r1), some (.int a2), some (.int y3), some (.int x4)]) ⟨rfl, ⟨rfl, ⟨rfl, ⟨rfl, ⟨rfl, trivial⟩⟩⟩⟩⟩ ?_
          exact s_Wall_countDora_L66 hr1 ih  hJ
        · have hJ := hJ.2 c
          refine zq_iload_n d_Wall_countDora_45 rfl rfl ?_
          refine zq_aload_n d_Wall_countDora_46 rfl rfl ?_
          refine zq_aload_n d_Wall_countDora_47 rfl rfl ?_
          refine zm_getR fg_Wall_11 d_Wall_countDora_48 zs_Wall rfl ?_
          refine zq_sipush (v := 130) d_Wall_countDora_51 zk_s130 ?_
          refine zq_iconst (v := 2) d_Wall_countDora_54 zk_i2 ?_
          refine zq_iload d_Wall_countDora_55 rfl ?_
          refine zq_imul d_Wall_countDora_57 ?_
          refine zq_isub d_Wall_countDora_58 ?_
          obtain ⟨hb, hJ⟩ := hJ
          refine zm_ald d_Wall_countDora_59 (rfl : zm_sh[12]? = some (.inl (0, 136, .inl (fun _ => 0)))) hb ?_
          refine zr_csI (as := [.int (m1.1 12 (Int32.toNatClampNeg (130 - (2 * x4))))]) (st := [.ref r1, .int y3]) d_Wall_countDora_60 cc_Wall_47 cs_Wall_kindBehind (s_Wall_kindBehind  hJ) rfl ⟨Nat.le_of_ble_eq_true rfl, Nat.le_of_ble_eq_true rfl⟩ (Nat.le_of_ble_eq_true rfl) ⟨Nat.le_refl _, Nat.le_refl _⟩ rfl (fun r5 m4 hJ => ?_)
          obtain ⟨hb, hJ⟩ := hJ
          refine zm_ald d_Wall_countDora_63 hr1 hb ?_
          refine zq_iadd d_Wall_countDora_64 ?_
          refine zr_topi (fun y6 hy6 => ?_)
          have hJ := hJ y6 hy6
          refine zr_istore_n (L' := [some (.ref 11), some (.ref r1), some (.int a2), some (.int y6), some (.int x4)]) d_Wall_countDora_65 rfl (Nat.le_of_ble_eq_true rfl) rfl ?_
          refine zr_less (L' := [some (.ref 11), some (.ref r1), some (.int a2), some (.int y6), some (.int x4)]) ⟨rfl, ⟨rfl, ⟨rfl, ⟨rfl, ⟨rfl, trivial⟩⟩⟩⟩⟩ ?_
          exact s_Wall_countDora_L66 hr1 ih  hJ
set_option maxHeartbeats 400000 in
theorem s_Wall_countDora {g : zk_T} {r1 : Nat} {a2 : Int32} (hr1 : zm_ar r1) {K : Int32 → zm → Prop} {m : zm} (hJ : j_Wall_countDora r1 a2 m K) : zq_Mt (zk_g g) y_Wall_countDora 1 0 0 [.ref 11, .ref r1, .int a2] (zm_hp m) (zm_QI K) := by
  unfold j_Wall_countDora at hJ
  refine zq_meth (ini := false) rfl (fun h => by cases h) (Nat.le_of_ble_eq_true rfl) ?_
  refine zr_L (F := ("RiichiTable$Wall", prog_6_method_11_code, 5, (some .int), false, zq_rm 1 0 0)) (L' := [some (.ref 11), some (.ref r1), some (.int a2), none, none]) rfl ?_
  refine zq_iconst (v := 0) d_Wall_countDora_0 zk_i0 ?_
  refine zr_istore_n (L' := [some (.ref 11), some (.ref r1), some (.int a2), some (.int 0), none]) d_Wall_countDora_1 rfl (Nat.le_of_ble_eq_true rfl) rfl ?_
  refine zq_iconst (v := 0) d_Wall_countDora_2 zk_i0 ?_
  refine zr_istore (L' := [some (.ref 11), some (.ref r1), some (.int a2), some (.int 0), some (.int 0)]) d_Wall_countDora_3 (Nat.le_of_ble_eq_true rfl) rfl ?_
  refine zr_less (L' := [some (.ref 11), some (.ref r1), some (.int a2), some (.int 0), some (.int 0)]) ⟨rfl, ⟨rfl, ⟨rfl, ⟨rfl, ⟨rfl, trivial⟩⟩⟩⟩⟩ ?_
  obtain ⟨n5, hJ⟩ := hJ
  exact s_Wall_countDora_L5 hr1  n5  hJ
set_option maxHeartbeats 400000 in
theorem s_Table_arrange_L24 {g : zk_T} {a1 : Int32} {a2 : Int32} {K : Int32 → zm → Prop} {t0 : Int32} {m : zm} (hJ : j_Table_arrange_L24 a1 a2  K t0 m) : zq_V (zk_g g) ("RiichiTable", prog_1_method_2_code, 3, (some .boolean), false, zq_rm 3 0 0) 0 0 24 [some (.ref 0), some (.int a1), some (.int a2)] [.int t0] (zm_hp m) (zm_QI K) := by
  unfold j_Table_arrange_L24 at hJ
  exact zq_iret d_Table_arrange_24 rfl hJ.1.nar (Nat.le_refl _) (Nat.le_refl _) ⟨_, _, rfl, rfl, hJ.2⟩
set_option maxHeartbeats 400000 in
theorem s_Table_arrange_L23 {g : zk_T} {a1 : Int32} {a2 : Int32} {K : Int32 → zm → Prop} {m : zm} (hJ : j_Table_arrange_L23 a1 a2  K  m) : zq_V (zk_g g) ("RiichiTable", prog_1_method_2_code, 3, (some .boolean), false, zq_rm 3 0 0) 0 0 23 [some (.ref 0), some (.int a1), some (.int a2)] [] (zm_hp m) (zm_QI K) := by
  unfold j_Table_arrange_L23 at hJ
  refine zq_iconst (v := 0) d_Table_arrange_23 zk_i0 ?_
  refine zr_less (L' := [some (.ref 0), some (.int a1), some (.int a2)]) ⟨rfl, ⟨rfl, ⟨rfl, trivial⟩⟩⟩ ?_
  exact s_Table_arrange_L24    hJ
set_option maxHeartbeats 400000 in
theorem s_Table_arrange {g : zk_T} {a1 : Int32} {a2 : Int32} {K : Int32 → zm → Prop} {m : zm} (hJ : j_Table_arrange a1 a2 m K) : zq_Mt (zk_g g) y_Table_arrange 3 0 0 [.ref 0, .int a1, .int a2] (zm_hp m) (zm_QI K) := by
  unfold j_Table_arrange at hJ
  refine zq_meth (ini := false) rfl (fun h => by cases h) (Nat.le_of_ble_eq_true rfl) ?_
  refine zr_L (F := ("RiichiTable", prog_1_method_2_code, 3, (some .boolean), false, zq_rm 3 0 0)) (L' := [some (.ref 0), some (.int a1), some (.int a2)]) rfl ?_
  refine zq_aload_n d_Table_arrange_0 rfl rfl ?_
  refine zm_getI fg_Table_22 d_Table_arrange_1 zs_Table rfl ?_
  refine zq_if_ne (tgt := 23) d_Table_arrange_4 (by decide) (fun c => ?_) (fun c => ?_)
  · have hJ := hJ.1 c
    refine zr_less (L' := [some (.ref 0), some (.int a1), some (.int a2)]) ⟨rfl, ⟨rfl, ⟨rfl, trivial⟩⟩⟩ ?_
    exact s_Table_arrange_L23    hJ
  · have hJ := hJ.2 c
    refine zq_aload_n d_Table_arrange_7 rfl rfl ?_
    refine zm_getR fg_Table_34 d_Table_arrange_8 zs_Table rfl ?_
    refine zq_iload_n d_Table_arrange_11 rfl rfl ?_
    refine zq_iload_n d_Table_arrange_12 rfl rfl ?_
    refine zr_cvI (q := 11) (as := [.int a1, .int a2]) (st := []) d_Table_arrange_13 cc_Table_42 cv_Wall_bringTo zs_Wall (s_Wall_bringTo  hJ) rfl ⟨Nat.le_of_ble_eq_true rfl, Nat.le_of_ble_eq_true rfl⟩ (Nat.le_of_ble_eq_true rfl) ⟨Nat.le_refl _, Nat.le_refl _⟩ rfl (fun r2 m1 hJ => ?_)
    refine zq_if_eq (tgt := 23) d_Table_arrange_16 (by decide) (fun c => ?_) (fun c => ?_)
    · have hJ := hJ.1 c
      refine zr_less (L' := [some (.ref 0), some (.int a1), some (.int a2)]) ⟨rfl, ⟨rfl, ⟨rfl, trivial⟩⟩⟩ ?_
      exact s_Table_arrange_L23    hJ
    · have hJ := hJ.2 c
      refine zq_iconst (v := 1) d_Table_arrange_19 zk_i1 ?_
      refine zq_goto (tgt := 24) d_Table_arrange_20 (by decide) ?_
      refine zr_less (L' := [some (.ref 0), some (.int a1), some (.int a2)]) ⟨rfl, ⟨rfl, ⟨rfl, trivial⟩⟩⟩ ?_
      exact s_Table_arrange_L24    hJ
set_option maxHeartbeats 400000 in
theorem s_Table_giveDrawn {g : zk_T} {a1 : Int32} {K : zm → Prop} {m : zm} (hJ : j_Table_giveDrawn a1 m K) : zq_Mt (zk_g g) y_Table_giveDrawn 1 0 0 [.ref 0, .int a1] (zm_hp m) (zm_QV K) := by
  unfold j_Table_giveDrawn at hJ
  refine zq_meth (ini := false) rfl (fun h => by cases h) (Nat.le_of_ble_eq_true rfl) ?_
  refine zr_L (F := ("RiichiTable", prog_1_method_43_code, 2, none, false, zq_rm 1 0 0)) (L' := [some (.ref 0), some (.int a1)]) rfl ?_
  refine zq_aload_n d_Table_giveDrawn_0 rfl rfl ?_
  refine zq_iload_n d_Table_giveDrawn_1 rfl rfl ?_
  refine zr_putI fl_Table_26 d_Table_giveDrawn_2 zs_Table rfl rfl (fun m1 hm1 => ?_)
  have hJ := hJ m1 hm1
  refine zq_aload_n d_Table_giveDrawn_5 rfl rfl ?_
  refine zm_getR fg_Table_11 d_Table_giveDrawn_6 zs_Table rfl ?_
  refine zq_aload_n d_Table_giveDrawn_9 rfl rfl ?_
  refine zm_getI fg_Table_71 d_Table_giveDrawn_10 zs_Table rfl ?_
  obtain ⟨hb2, hJ⟩ := hJ
  refine zm_pld d_Table_giveDrawn_13 hb2 ?_
  refine zm_getR fg_Table_52 d_Table_giveDrawn_14 (zm_pl_of hb2).s rfl ?_
  refine zq_iload_n d_Table_giveDrawn_17 rfl rfl ?_
  refine zq_dup2 d_Table_giveDrawn_18 rfl rfl ?_
  obtain ⟨hb, hJ⟩ := hJ
  refine zm_ald d_Table_giveDrawn_19 (zm_pl.c (zm_pl_of hb2)) hb ?_
  refine zq_iconst (v := 1) d_Table_giveDrawn_20 zk_i1 ?_
  refine zq_iadd d_Table_giveDrawn_21 ?_
  obtain ⟨hb, hJ⟩ := hJ
  refine zr_ast d_Table_giveDrawn_22 (zm_pl.c (zm_pl_of hb2)) hb (fun m3 hm3 => ?_)
  have hJ := hJ m3 hm3
  refine zq_aload_n d_Table_giveDrawn_23 rfl rfl ?_
  refine zm_getR fg_Table_11 d_Table_giveDrawn_24 zs_Table rfl ?_
  refine zq_aload_n d_Table_giveDrawn_27 rfl rfl ?_
  refine zm_getI fg_Table_71 d_Table_giveDrawn_28 zs_Table rfl ?_
  obtain ⟨hb4, hJ⟩ := hJ
  refine zm_pld d_Table_giveDrawn_31 hb4 ?_
  refine zr_cvV (q := (13 + 5 * (Int32.toNatClampNeg (m3.1 0 8)))) (as := []) (st := []) d_Table_giveDrawn_32 cc_Table_266 cv_Player_forgetMissed (zm_pl_of hb4).s (s_Player_forgetMissed (zm_pl_of hb4) hJ) rfl ⟨Nat.le_of_ble_eq_true rfl, Nat.le_of_ble_eq_true rfl⟩ (Nat.le_of_ble_eq_true rfl) ⟨Nat.le_refl _, Nat.le_refl _⟩ rfl (fun m5 hJ => ?_)
  refine zq_aload_n d_Table_giveDrawn_35 rfl rfl ?_
  refine zq_iconst (v := 1) d_Table_giveDrawn_36 zk_i1 ?_
  refine zr_putI fl_Table_22 d_Table_giveDrawn_37 zs_Table rfl rfl (fun m6 hm6 => ?_)
  have hJ := hJ m6 hm6
  exact zq_vret d_Table_giveDrawn_40 rfl (Nat.le_refl _) (Nat.le_refl _) ⟨_, rfl, rfl, hJ⟩
set_option maxHeartbeats 400000 in
theorem s_Table_drawFor {g : zk_T} {a1 : Int32} {K : zm → Prop} {m : zm} (hJ : j_Table_drawFor a1 m K) : zq_Mt (zk_g g) y_Table_drawFor 2 0 0 [.ref 0, .int a1] (zm_hp m) (zm_QV K) := by
  unfold j_Table_drawFor at hJ
  refine zq_meth (ini := false) rfl (fun h => by cases h) (Nat.le_of_ble_eq_true rfl) ?_
  refine zr_L (F := ("RiichiTable", prog_1_method_42_code, 2, none, false, zq_rm 2 0 0)) (L' := [some (.ref 0), some (.int a1)]) rfl ?_
  refine zq_aload_n d_Table_drawFor_0 rfl rfl ?_
  refine zq_iload_n d_Table_drawFor_1 rfl rfl ?_
  refine zr_putI fl_Table_71 d_Table_drawFor_2 zs_Table rfl rfl (fun m1 hm1 => ?_)
  have hJ := hJ m1 hm1
  refine zq_aload_n d_Table_drawFor_5 rfl rfl ?_
  refine zq_aload_n d_Table_drawFor_6 rfl rfl ?_
  refine zm_getR fg_Table_34 d_Table_drawFor_7 zs_Table rfl ?_
  refine zr_cvI (q := 11) (as := []) (st := [.ref 0]) d_Table_drawFor_10 cc_Table_284 cv_Wall_drawTile zs_Wall (s_Wall_drawTile  hJ) rfl ⟨Nat.le_of_ble_eq_true rfl, Nat.le_of_ble_eq_true rfl⟩ (Nat.le_of_ble_eq_true rfl) ⟨Nat.le_refl _, Nat.le_refl _⟩ rfl (fun r3 m2 hJ => ?_)
  refine zr_cvV (q := 0) (as := [.int r3]) (st := []) d_Table_drawFor_13 cc_Table_278 cv_Table_giveDrawn zs_Table (s_Table_giveDrawn  hJ) rfl ⟨Nat.le_of_ble_eq_true rfl, Nat.le_of_ble_eq_true rfl⟩ (Nat.le_of_ble_eq_true rfl) ⟨Nat.le_refl _, Nat.le_refl _⟩ rfl (fun m4 hJ => ?_)
  refine zq_aload_n d_Table_drawFor_16 rfl rfl ?_
  refine zq_iconst (v := 0) d_Table_drawFor_17 zk_i0 ?_
  refine zr_putZ fl_Table_281 d_Table_drawFor_18 zs_Table rfl rfl (Or.inl rfl) (fun m5 hm5 => ?_)
  have hJ := hJ m5 hm5
  exact zq_vret d_Table_drawFor_21 rfl (Nat.le_refl _) (Nat.le_refl _) ⟨_, rfl, rfl, hJ⟩
set_option maxHeartbeats 400000 in
theorem s_Table_deal_L11 {g : zk_T} {K : Int32 → zm → Prop} : ∀ (n : Nat) {x1 : Int32} {m : zm}, j_Table_deal_L11   K n x1 m → zq_V (zk_g g) ("RiichiTable", prog_1_method_3_code, 3, (some .boolean), false, zq_rm 3 0 0) 0 0 11 [some (.ref 0), some (.int x1), none] [] (zm_hp m) (zm_QI K) := by
  intro n
  induction n with
  | zero =>
    intro x1 m hJ
    exact False.elim hJ
  | succ n ih =>
    intro x1 m hJ
    rw [j_Table_deal_L11] at hJ
    refine zq_iload_n d_Table_deal_11 rfl rfl ?_
    refine zq_iconst (v := 4) d_Table_deal_12 zk_i4 ?_
    refine zq_icmp_ge (tgt := 52) d_Table_deal_13 (by decide) (fun c => ?_) (fun c => ?_)
    · have hJ := hJ.1 c
      refine zq_aload_n d_Table_deal_52 rfl rfl ?_
      refine zq_iconst (v := 0) d_Table_deal_53 zk_i0 ?_
      refine zr_putZ fl_Table_60 d_Table_deal_54 zs_Table rfl rfl (Or.inl rfl) (fun m1 hm1 => ?_)
      have hJ := hJ m1 hm1
      refine zq_aload_n d_Table_deal_57 rfl rfl ?_
      refine zq_aload_n d_Table_deal_58 rfl rfl ?_
      refine zm_getI fg_Table_46 d_Table_deal_59 zs_Table rfl ?_
      refine zr_cvV (q := 0) (as := [.int (m1.1 0 4)]) (st := []) d_Table_deal_62 cc_Table_64 cv_Table_drawFor zs_Table (s_Table_drawFor  hJ) rfl ⟨Nat.le_of_ble_eq_true rfl, Nat.le_of_ble_eq_true rfl⟩ (Nat.le_of_ble_eq_true rfl) ⟨Nat.le_refl _, Nat.le_refl _⟩ rfl (fun m2 hJ => ?_)
      refine zq_iconst (v := 1) d_Table_deal_65 zk_i1 ?_
      exact zq_iret d_Table_deal_66 rfl (zm_isB.nar (Or.inr rfl)) (Nat.le_refl _) (Nat.le_refl _) ⟨_, _, rfl, rfl, hJ⟩
    · have hJ := hJ.2 c
      refine zq_aload_n d_Table_deal_16 rfl rfl ?_
      refine zm_getR fg_Table_11 d_Table_deal_17 zs_Table rfl ?_
      refine zq_aload_n d_Table_deal_20 rfl rfl ?_
      refine zm_getI fg_Table_46 d_Table_deal_21 zs_Table rfl ?_
      refine zq_iload_n d_Table_deal_24 rfl rfl ?_
      refine zq_iadd d_Table_deal_25 ?_
      refine zq_iconst (v := 4) d_Table_deal_26 zk_i4 ?_
      refine zq_irem d_Table_deal_27 (by decide) ?_
      obtain ⟨hb3, hJ⟩ := hJ
      refine zm_pld d_Table_deal_28 hb3 ?_
      refine zr_topr (fun y4 hy4 => ?_)
      have hJ := hJ y4 hy4
      refine zr_astore_n (L' := [some (.ref 0), some (.int x1), some (.ref y4)]) d_Table_deal_29 rfl (Nat.le_of_ble_eq_true rfl) rfl ?_
      refine zq_aload_n d_Table_deal_30 rfl rfl ?_
      refine zr_cvV (q := y4) (as := []) (st := []) d_Table_deal_31 cc_Table_49 cv_Player_clearHand (hy4.symm ▸ (zm_pl_of hb3) : zm_pl y4).s (s_Player_clearHand (hy4.symm ▸ (zm_pl_of hb3) : zm_pl y4) hJ) rfl ⟨Nat.le_of_ble_eq_true rfl, Nat.le_of_ble_eq_true rfl⟩ (Nat.le_of_ble_eq_true rfl) ⟨Nat.le_refl _, Nat.le_refl _⟩ rfl (fun m5 hJ => ?_)
      refine zq_aload_n d_Table_deal_34 rfl rfl ?_
      refine zm_getR fg_Table_34 d_Table_deal_35 zs_Table rfl ?_
      refine zq_aload_n d_Table_deal_38 rfl rfl ?_
      refine zm_getR fg_Table_52 d_Table_deal_39 (hy4.symm ▸ (zm_pl_of hb3) : zm_pl y4).s rfl ?_
      refine zq_iload_n d_Table_deal_42 rfl rfl ?_
      refine zr_cvV (q := 11) (as := [.ref (y4 + 1), .int x1]) (st := []) d_Table_deal_43 cc_Table_56 cv_Wall_dealTo zs_Wall (s_Wall_dealTo (zm_pl.c (hy4.symm ▸ (zm_pl_of hb3) : zm_pl y4)) hJ) rfl ⟨Nat.le_of_ble_eq_true rfl, Nat.le_of_ble_eq_true rfl⟩ (Nat.le_of_ble_eq_true rfl) ⟨Nat.le_refl _, Nat.le_refl _⟩ rfl (fun m6 hJ => ?_)
      refine zr_iinc (d' := 1) d_Table_deal_46 zk_i1 rfl (Nat.le_of_ble_eq_true rfl) (fun y7 hy7 => ?_)
      have hJ := hJ y7 hy7
      refine zr_L (L' := [some (.ref 0), some (.int y7), some (.ref y4)]) rfl ?_
      refine zq_goto (tgt := 11) d_Table_deal_49 (by decide) ?_
      refine zr_less (L' := [some (.ref 0), some (.int y7), none]) ⟨rfl, ⟨rfl, trivial⟩⟩ ?_
      exact ih  hJ
set_option maxHeartbeats 400000 in
theorem s_Table_deal {g : zk_T} {K : Int32 → zm → Prop} {m : zm} (hJ : j_Table_deal  m K) : zq_Mt (zk_g g) y_Table_deal 3 0 0 [.ref 0] (zm_hp m) (zm_QI K) := by
  unfold j_Table_deal at hJ
  refine zq_meth (ini := false) rfl (fun h => by cases h) (Nat.le_of_ble_eq_true rfl) ?_
  refine zr_L (F := ("RiichiTable", prog_1_method_3_code, 3, (some .boolean), false, zq_rm 3 0 0)) (L' := [some (.ref 0), none, none]) rfl ?_
  refine zq_aload_n d_Table_deal_0 rfl rfl ?_
  refine zm_getI fg_Table_22 d_Table_deal_1 zs_Table rfl ?_
  refine zq_if_eq (tgt := 9) d_Table_deal_4 (by decide) (fun c => ?_) (fun c => ?_)
  · have hJ := hJ.1 c
    refine zq_iconst (v := 0) d_Table_deal_9 zk_i0 ?_
    refine zr_istore_n (L' := [some (.ref 0), some (.int 0), none]) d_Table_deal_10 rfl (Nat.le_of_ble_eq_true rfl) rfl ?_
    refine zr_less (L' := [some (.ref 0), some (.int 0), none]) ⟨rfl, ⟨rfl, trivial⟩⟩ ?_
    obtain ⟨n11, hJ⟩ := hJ
    exact s_Table_deal_L11   n11  hJ
  · have hJ := hJ.2 c
    refine zq_iconst (v := 0) d_Table_deal_7 zk_i0 ?_
    exact zq_iret d_Table_deal_8 rfl (zm_isB.nar (Or.inl rfl)) (Nat.le_refl _) (Nat.le_refl _) ⟨_, _, rfl, rfl, hJ⟩
set_option maxHeartbeats 400000 in
theorem s_Table_mayRiichi_L43 {g : zk_T} {r1 : Nat} {a2 : Int32} (hr1 : zm_pl r1) {K : Int32 → zm → Prop} {m : zm} (hJ : j_Table_mayRiichi_L43 r1 a2  K  m) : zq_V (zk_g g) ("RiichiTable", prog_1_method_27_code, 4, (some .boolean), false, zq_rm 4 0 0) 0 0 43 [some (.ref 0), some (.ref r1), some (.int a2), none] [] (zm_hp m) (zm_QI K) := by
  unfold j_Table_mayRiichi_L43 at hJ
  refine zq_iconst (v := 0) d_Table_mayRiichi_43 zk_i0 ?_
  exact zq_iret d_Table_mayRiichi_44 rfl (zm_isB.nar (Or.inl rfl)) (Nat.le_refl _) (Nat.le_refl _) ⟨_, _, rfl, rfl, hJ⟩
set_option maxHeartbeats 400000 in
theorem s_Table_mayRiichi_L69 {g : zk_T} {r1 : Nat} {a2 : Int32} (hr1 : zm_pl r1) {K : Int32 → zm → Prop} {t0 : Int32} {m : zm} (hJ : j_Table_mayRiichi_L69 r1 a2  K t0 m) : zq_V (zk_g g) ("RiichiTable", prog_1_method_27_code, 4, (some .boolean), false, zq_rm 4 0 0) 0 0 69 [some (.ref 0), some (.ref r1), some (.int a2), none] [.int t0] (zm_hp m) (zm_QI K) := by
  unfold j_Table_mayRiichi_L69 at hJ
  refine zr_istore_n (L' := [some (.ref 0), some (.ref r1), some (.int a2), some (.int t0)]) d_Table_mayRiichi_69 rfl (Nat.le_of_ble_eq_true rfl) rfl ?_
  refine zq_aload_n d_Table_mayRiichi_70 rfl rfl ?_
  refine zm_getR fg_Table_52 d_Table_mayRiichi_71 hr1.s rfl ?_
  refine zq_iload_n d_Table_mayRiichi_74 rfl rfl ?_
  refine zq_dup2 d_Table_mayRiichi_75 rfl rfl ?_
  obtain ⟨hb, hJ⟩ := hJ
  refine zm_ald d_Table_mayRiichi_76 (zm_pl.c hr1) hb ?_
  refine zq_iconst (v := 1) d_Table_mayRiichi_77 zk_i1 ?_
  refine zq_iadd d_Table_mayRiichi_78 ?_
  obtain ⟨hb, hJ⟩ := hJ
  refine zr_ast d_Table_mayRiichi_79 (zm_pl.c hr1) hb (fun m8 hm8 => ?_)
  have hJ := hJ m8 hm8
  refine zq_iload_n d_Table_mayRiichi_80 rfl rfl ?_
  exact zq_iret d_Table_mayRiichi_81 rfl hJ.1.nar (Nat.le_refl _) (Nat.le_refl _) ⟨_, _, rfl, rfl, hJ.2⟩
set_option maxHeartbeats 400000 in
theorem s_Table_mayRiichi {g : zk_T} {r1 : Nat} {a2 : Int32} (hr1 : zm_pl r1) {K : Int32 → zm → Prop} {m : zm} (hJ : j_Table_mayRiichi r1 a2 m K) : zq_Mt (zk_g g) y_Table_mayRiichi 4 0 0 [.ref 0, .ref r1, .int a2] (zm_hp m) (zm_QI K) := by
  unfold j_Table_mayRiichi at hJ
  refine zq_meth (ini := false) rfl (fun h => by cases h) (Nat.le_of_ble_eq_true rfl) ?_
  refine zr_L (F := ("RiichiTable", prog_1_method_27_code, 4, (some .boolean), false, zq_rm 4 0 0)) (L' := [some (.ref 0), some (.ref r1), some (.int a2), none]) rfl ?_
  refine zq_aload_n d_Table_mayRiichi_0 rfl rfl ?_
  refine zm_getI fg_Table_74 d_Table_mayRiichi_1 hr1.s rfl ?_
  refine zq_if_ne (tgt := 43) d_Table_mayRiichi_4 (by decide) (fun c => ?_) (fun c => ?_)
  · have hJ := hJ.1 c
    refine zr_less (L' := [some (.ref 0), some (.ref r1), some (.int a2), none]) ⟨rfl, ⟨rfl, ⟨rfl, trivial⟩⟩⟩ ?_
    exact s_Table_mayRiichi_L43 hr1   hJ
  · have hJ := hJ.2 c
    refine zq_aload_n d_Table_mayRiichi_7 rfl rfl ?_
    refine zr_cvI (q := r1) (as := []) (st := []) d_Table_mayRiichi_8 cc_Table_223 cv_Player_isClosed hr1.s (s_Player_isClosed hr1 hJ) rfl ⟨Nat.le_of_ble_eq_true rfl, Nat.le_of_ble_eq_true rfl⟩ (Nat.le_of_ble_eq_true rfl) ⟨Nat.le_refl _, Nat.le_refl _⟩ rfl (fun r2 m1 hJ => ?_)
    refine zq_if_eq (tgt := 43) d_Table_mayRiichi_11 (by decide) (fun c => ?_) (fun c => ?_)
    · have hJ := hJ.1 c
      refine zr_less (L' := [some (.ref 0), some (.ref r1), some (.int a2), none]) ⟨rfl, ⟨rfl, ⟨rfl, trivial⟩⟩⟩ ?_
      exact s_Table_mayRiichi_L43 hr1   hJ
    · have hJ := hJ.2 c
      refine zq_aload_n d_Table_mayRiichi_14 rfl rfl ?_
      refine zm_getI fg_Table_156 d_Table_mayRiichi_15 hr1.s rfl ?_
      refine zq_sipush (v := 1000) d_Table_mayRiichi_18 zk_s1000 ?_
      refine zq_icmp_lt (tgt := 43) d_Table_mayRiichi_21 (by decide) (fun c => ?_) (fun c => ?_)
      · have hJ := hJ.1 c
        refine zr_less (L' := [some (.ref 0), some (.ref r1), some (.int a2), none]) ⟨rfl, ⟨rfl, ⟨rfl, trivial⟩⟩⟩ ?_
        exact s_Table_mayRiichi_L43 hr1   hJ
      · have hJ := hJ.2 c
        refine zq_aload_n d_Table_mayRiichi_24 rfl rfl ?_
        refine zm_getR fg_Table_34 d_Table_mayRiichi_25 zs_Table rfl ?_
        refine zr_cvI (q := 11) (as := []) (st := []) d_Table_mayRiichi_28 cc_Table_106 cv_Wall_countLeft zs_Wall (s_Wall_countLeft  hJ) rfl ⟨Nat.le_of_ble_eq_true rfl, Nat.le_of_ble_eq_true rfl⟩ (Nat.le_of_ble_eq_true rfl) ⟨Nat.le_refl _, Nat.le_refl _⟩ rfl (fun r4 m3 hJ => ?_)
        refine zq_iconst (v := 4) d_Table_mayRiichi_31 zk_i4 ?_
        refine zq_icmp_lt (tgt := 43) d_Table_mayRiichi_32 (by decide) (fun c => ?_) (fun c => ?_)
        · have hJ := hJ.1 c
          refine zr_less (L' := [some (.ref 0), some (.ref r1), some (.int a2), none]) ⟨rfl, ⟨rfl, ⟨rfl, trivial⟩⟩⟩ ?_
          exact s_Table_mayRiichi_L43 hr1   hJ
        · have hJ := hJ.2 c
          refine zq_aload_n d_Table_mayRiichi_35 rfl rfl ?_
          refine zm_getI fg_Table_26 d_Table_mayRiichi_36 zs_Table rfl ?_
          refine zq_iconst (v := (-1)) d_Table_mayRiichi_39 zk_im1 ?_
          refine zq_icmp_ne (tgt := 45) d_Table_mayRiichi_40 (by decide) (fun c => ?_) (fun c => ?_)
          · have hJ := hJ.1 c
            refine zq_aload_n d_Table_mayRiichi_45 rfl rfl ?_
            refine zm_getR fg_Table_52 d_Table_mayRiichi_46 hr1.s rfl ?_
            refine zq_iload_n d_Table_mayRiichi_49 rfl rfl ?_
            refine zq_dup2 d_Table_mayRiichi_50 rfl rfl ?_
            obtain ⟨hb, hJ⟩ := hJ
            refine zm_ald d_Table_mayRiichi_51 (zm_pl.c hr1) hb ?_
            refine zq_iconst (v := 1) d_Table_mayRiichi_52 zk_i1 ?_
            refine zq_isub d_Table_mayRiichi_53 ?_
            obtain ⟨hb, hJ⟩ := hJ
            refine zr_ast d_Table_mayRiichi_54 (zm_pl.c hr1) hb (fun m5 hm5 => ?_)
            have hJ := hJ m5 hm5
            refine zq_aload_n d_Table_mayRiichi_55 rfl rfl ?_
            refine zr_cvL (q := r1) (as := []) (st := []) d_Table_mayRiichi_56 cc_Table_200 cv_Player_findWaits hr1.s (s_Player_findWaits hr1 hJ) rfl ⟨Nat.le_of_ble_eq_true rfl, Nat.le_of_ble_eq_true rfl⟩ (Nat.le_of_ble_eq_true rfl) ⟨Nat.le_refl _, Nat.le_refl _⟩ rfl (fun r7 m6 hJ => ?_)
            refine zq_lconst (v := 0) d_Table_mayRiichi_59 zk_l0 ?_
            refine zq_lcmp d_Table_mayRiichi_60 ?_
            refine zq_if_eq (tgt := 68) d_Table_mayRiichi_61 (by decide) (fun c => ?_) (fun c => ?_)
            · have hJ := hJ.1 c
              refine zq_iconst (v := 0) d_Table_mayRiichi_68 zk_i0 ?_
              refine zr_less (L' := [some (.ref 0), some (.ref r1), some (.int a2), none]) ⟨rfl, ⟨rfl, ⟨rfl, trivial⟩⟩⟩ ?_
              exact s_Table_mayRiichi_L69 hr1   hJ
            · have hJ := hJ.2 c
              refine zq_iconst (v := 1) d_Table_mayRiichi_64 zk_i1 ?_
              refine zq_goto (tgt := 69) d_Table_mayRiichi_65 (by decide) ?_
              refine zr_less (L' := [some (.ref 0), some (.ref r1), some (.int a2), none]) ⟨rfl, ⟨rfl, ⟨rfl, trivial⟩⟩⟩ ?_
              exact s_Table_mayRiichi_L69 hr1   hJ
          · have hJ := hJ.2 c
            refine zr_less (L' := [some (.ref 0), some (.ref r1), some (.int a2), none]) ⟨rfl, ⟨rfl, ⟨rfl, trivial⟩⟩⟩ ?_
            exact s_Table_mayRiichi_L43 hr1   hJ
set_option maxHeartbeats 400000 in
theorem s_Table_findTakes_L32 {g : zk_T} {a1 : Int32} {K : Int32 → zm → Prop} {m : zm} (hJ : j_Table_findTakes_L32 a1  K  m) : zq_V (zk_g g) ("RiichiTable", prog_1_method_31_code, 5, (some .int), false, zq_rm 2 0 0) 0 0 32 [some (.ref 0), some (.int a1), none, none, none] [] (zm_hp m) (zm_QI K) := by
  unfold j_Table_findTakes_L32 at hJ
  refine zq_iconst (v := 0) d_Table_findTakes_32 zk_i0 ?_
  exact zq_iret d_Table_findTakes_33 rfl rfl (Nat.le_refl _) (Nat.le_refl _) ⟨_, _, rfl, rfl, hJ⟩
set_option maxHeartbeats 400000 in
theorem s_Table_findTakes_L128 {g : zk_T} {a1 : Int32} {R102 : Nat → Int32 → Int32 → zm → Prop} {K : Int32 → zm → Prop} (hR102 : ∀ {r2 : Nat} {x3 : Int32} {x4 : Int32} {m : zm}, zm_pl r2 → R102 r2 x3 x4 m → zq_V (zk_g g) ("RiichiTable", prog_1_method_31_code, 5, (some .int), false, zq_rm 2 0 0) 0 0 102 [some (.ref 0), some (.int a1), some (.ref r2), some (.int x3), some (.int x4)] [] (zm_hp m) (zm_QI K)) {r2 : Nat} {x3 : Int32} {x4 : Int32} {m : zm} (hr2 : zm_pl r2) (hJ : j_Table_findTakes_L128 a1 R102 K r2 x3 x4 m) : zq_V (zk_g g) ("RiichiTable", prog_1_method_31_code, 5, (some .int), false, zq_rm 2 0 0) 0 0 128 [some (.ref 0), some (.int a1), some (.ref r2), some (.int x3), some (.int x4)] [] (zm_hp m) (zm_QI K) := by
  unfold j_Table_findTakes_L128 at hJ
  refine zr_iinc (d' := 1) d_Table_findTakes_128 zk_i1 rfl (Nat.le_of_ble_eq_true rfl) (fun y11 hy11 => ?_)
  have hJ := hJ y11 hy11
  refine zr_L (L' := [some (.ref 0), some (.int a1), some (.ref r2), some (.int x3), some (.int y11)]) rfl ?_
  refine zq_goto (tgt := 102) d_Table_findTakes_131 (by decide) ?_
  refine zr_less (L' := [some (.ref 0), some (.int a1), some (.ref r2), some (.int x3), some (.int y11)]) ⟨rfl, ⟨rfl, ⟨rfl, ⟨rfl, ⟨rfl, trivial⟩⟩⟩⟩⟩ ?_
  exact hR102 hr2 hJ
set_option maxHeartbeats 400000 in
theorem s_Table_findTakes_L134 {g : zk_T} {a1 : Int32} {K : Int32 → zm → Prop} {x3 : Int32} {m : zm} (hJ : j_Table_findTakes_L134 a1  K x3 m) : zq_V (zk_g g) ("RiichiTable", prog_1_method_31_code, 5, (some .int), false, zq_rm 2 0 0) 0 0 134 [some (.ref 0), some (.int a1), none, some (.int x3), none] [] (zm_hp m) (zm_QI K) := by
  unfold j_Table_findTakes_L134 at hJ
  refine zq_iload_n d_Table_findTakes_134 rfl rfl ?_
  exact zq_iret d_Table_findTakes_135 rfl rfl (Nat.le_refl _) (Nat.le_refl _) ⟨_, _, rfl, rfl, hJ⟩
set_option maxHeartbeats 400000 in
theorem s_Table_findTakes_L102 {g : zk_T} {a1 : Int32} {K : Int32 → zm → Prop} : ∀ (n : Nat) {r2 : Nat} {x3 : Int32} {x4 : Int32} {m : zm}, zm_pl r2 → j_Table_findTakes_L102 a1  K n r2 x3 x4 m → zq_V (zk_g g) ("RiichiTable", prog_1_method_31_code, 5, (some .int), false, zq_rm 2 0 0) 0 0 102 [some (.ref 0), some (.int a1), some (.ref r2), some (.int x3), some (.int x4)] [] (zm_hp m) (zm_QI K) := by
  intro n
  induction n with
  | zero =>
    intro r2 x3 x4 m hr2 hJ
    exact False.elim hJ
  | succ n ih =>
    intro r2 x3 x4 m hr2 hJ
    rw [j_Table_findTakes_L102] at hJ
    refine zq_iload d_Table_findTakes_102 rfl ?_
    refine zq_aload_n d_Table_findTakes_104 rfl rfl ?_
    refine zm_getI fg_Table_26 d_Table_findTakes_105 zs_Table rfl ?_
    refine zq_icmp_gt (tgt := 134) d_Table_findTakes_108 (by decide) (fun c => ?_) (fun c => ?_)
    · have hJ := hJ.1 c
      refine zr_less (L' := [some (.ref 0), some (.int a1), none, some (.int x3), none]) ⟨rfl, ⟨rfl, ⟨rfl, trivial⟩⟩⟩ ?_
      exact s_Table_findTakes_L134    hJ
    · have hJ := hJ.2 c
      refine zq_aload_n d_Table_findTakes_111 rfl rfl ?_
      refine zq_iload d_Table_findTakes_112 rfl ?_
      refine zq_aload_n d_Table_findTakes_114 rfl rfl ?_
      refine zm_getI fg_Table_26 d_Table_findTakes_115 zs_Table rfl ?_
      refine zr_cvI (q := r2) (as := [.int x4, .int (m.1 0 9)]) (st := []) d_Table_findTakes_118 cc_Table_235 cv_Player_hasRestOfRun hr2.s (s_Player_hasRestOfRun hr2 hJ) rfl ⟨Nat.le_of_ble_eq_true rfl, Nat.le_of_ble_eq_true rfl⟩ (Nat.le_of_ble_eq_true rfl) ⟨Nat.le_refl _, Nat.le_refl _⟩ rfl (fun r9 m8 hJ => ?_)
      refine zq_if_eq (tgt := 128) d_Table_findTakes_121 (by decide) (fun c => ?_) (fun c => ?_)
      · have hJ := hJ.1 c
        refine zr_less (L' := [some (.ref 0), some (.int a1), some (.ref r2), some (.int x3), some (.int x4)]) ⟨rfl, ⟨rfl, ⟨rfl, ⟨rfl, ⟨rfl, trivial⟩⟩⟩⟩⟩ ?_
        exact s_Table_findTakes_L128  ih hr2 hJ
      · have hJ := hJ.2 c
        refine zq_iload_n d_Table_findTakes_124 rfl rfl ?_
        refine zq_iconst (v := 2) d_Table_findTakes_125 zk_i2 ?_
        refine zq_ior d_Table_findTakes_126 ?_
        refine zr_topi (fun y10 hy10 => ?_)
        have hJ := hJ y10 hy10
        refine zr_istore_n (L' := [some (.ref 0), some (.int a1), some (.ref r2), some (.int y10), some (.int x4)]) d_Table_findTakes_127 rfl (Nat.le_of_ble_eq_true rfl) rfl ?_
        refine zr_less (L' := [some (.ref 0), some (.int a1), some (.ref r2), some (.int y10), some (.int x4)]) ⟨rfl, ⟨rfl, ⟨rfl, ⟨rfl, ⟨rfl, trivial⟩⟩⟩⟩⟩ ?_
        exact s_Table_findTakes_L128  ih hr2 hJ
set_option maxHeartbeats 400000 in
theorem s_Table_findTakes_L82 {g : zk_T} {a1 : Int32} {K : Int32 → zm → Prop} {r2 : Nat} {x3 : Int32} {m : zm} (hr2 : zm_pl r2) (hJ : j_Table_findTakes_L82 a1  K r2 x3 m) : zq_V (zk_g g) ("RiichiTable", prog_1_method_31_code, 5, (some .int), false, zq_rm 2 0 0) 0 0 82 [some (.ref 0), some (.int a1), some (.ref r2), some (.int x3), none] [] (zm_hp m) (zm_QI K) := by
  unfold j_Table_findTakes_L82 at hJ
  refine zq_iload_n d_Table_findTakes_82 rfl rfl ?_
  refine zq_aload_n d_Table_findTakes_83 rfl rfl ?_
  refine zm_getI fg_Table_71 d_Table_findTakes_84 zs_Table rfl ?_
  refine zq_iconst (v := 1) d_Table_findTakes_87 zk_i1 ?_
  refine zq_iadd d_Table_findTakes_88 ?_
  refine zq_iconst (v := 4) d_Table_findTakes_89 zk_i4 ?_
  refine zq_irem d_Table_findTakes_90 (by decide) ?_
  refine zq_icmp_ne (tgt := 134) d_Table_findTakes_91 (by decide) (fun c => ?_) (fun c => ?_)
  · have hJ := hJ.1 c
    refine zr_less (L' := [some (.ref 0), some (.int a1), none, some (.int x3), none]) ⟨rfl, ⟨rfl, ⟨rfl, trivial⟩⟩⟩ ?_
    exact s_Table_findTakes_L134    hJ
  · have hJ := hJ.2 c
    refine zq_aload_n d_Table_findTakes_94 rfl rfl ?_
    refine zm_getI fg_Table_26 d_Table_findTakes_95 zs_Table rfl ?_
    refine zq_iconst (v := 2) d_Table_findTakes_98 zk_i2 ?_
    refine zq_isub d_Table_findTakes_99 ?_
    refine zr_topi (fun y7 hy7 => ?_)
    have hJ := hJ y7 hy7
    refine zr_istore (L' := [some (.ref 0), some (.int a1), some (.ref r2), some (.int x3), some (.int y7)]) d_Table_findTakes_100 (Nat.le_of_ble_eq_true rfl) rfl ?_
    refine zr_less (L' := [some (.ref 0), some (.int a1), some (.ref r2), some (.int x3), some (.int y7)]) ⟨rfl, ⟨rfl, ⟨rfl, ⟨rfl, ⟨rfl, trivial⟩⟩⟩⟩⟩ ?_
    obtain ⟨n102, hJ⟩ := hJ
    exact s_Table_findTakes_L102   n102 hr2 hJ
set_option maxHeartbeats 400000 in
theorem s_Table_findTakes_L53 {g : zk_T} {a1 : Int32} {K : Int32 → zm → Prop} {r2 : Nat} {x3 : Int32} {m : zm} (hr2 : zm_pl r2) (hJ : j_Table_findTakes_L53 a1  K r2 x3 m) : zq_V (zk_g g) ("RiichiTable", prog_1_method_31_code, 5, (some .int), false, zq_rm 2 0 0) 0 0 53 [some (.ref 0), some (.int a1), some (.ref r2), some (.int x3), none] [] (zm_hp m) (zm_QI K) := by
  unfold j_Table_findTakes_L53 at hJ
  refine zq_aload_n d_Table_findTakes_53 rfl rfl ?_
  refine zm_getR fg_Table_52 d_Table_findTakes_54 hr2.s rfl ?_
  refine zq_aload_n d_Table_findTakes_57 rfl rfl ?_
  refine zm_getI fg_Table_26 d_Table_findTakes_58 zs_Table rfl ?_
  obtain ⟨hb, hJ⟩ := hJ
  refine zm_ald d_Table_findTakes_61 (zm_pl.c hr2) hb ?_
  refine zq_iconst (v := 3) d_Table_findTakes_62 zk_i3 ?_
  refine zq_icmp_lt (tgt := 82) d_Table_findTakes_63 (by decide) (fun c => ?_) (fun c => ?_)
  · have hJ := hJ.1 c
    refine zr_less (L' := [some (.ref 0), some (.int a1), some (.ref r2), some (.int x3), none]) ⟨rfl, ⟨rfl, ⟨rfl, ⟨rfl, trivial⟩⟩⟩⟩ ?_
    exact s_Table_findTakes_L82   hr2 hJ
  · have hJ := hJ.2 c
    refine zq_aload_n d_Table_findTakes_66 rfl rfl ?_
    refine zm_getR fg_Table_34 d_Table_findTakes_67 zs_Table rfl ?_
    refine zm_getI fg_Table_103 d_Table_findTakes_70 zs_Wall rfl ?_
    refine zq_iconst (v := 4) d_Table_findTakes_73 zk_i4 ?_
    refine zq_icmp_ge (tgt := 82) d_Table_findTakes_74 (by decide) (fun c => ?_) (fun c => ?_)
    · have hJ := hJ.1 c
      refine zr_less (L' := [some (.ref 0), some (.int a1), some (.ref r2), some (.int x3), none]) ⟨rfl, ⟨rfl, ⟨rfl, ⟨rfl, trivial⟩⟩⟩⟩ ?_
      exact s_Table_findTakes_L82   hr2 hJ
    · have hJ := hJ.2 c
      refine zq_iload_n d_Table_findTakes_77 rfl rfl ?_
      refine zq_bipush (v := 8) d_Table_findTakes_78 zk_b8 ?_
      refine zq_ior d_Table_findTakes_80 ?_
      refine zr_topi (fun y6 hy6 => ?_)
      have hJ := hJ y6 hy6
      refine zr_istore_n (L' := [some (.ref 0), some (.int a1), some (.ref r2), some (.int y6), none]) d_Table_findTakes_81 rfl (Nat.le_of_ble_eq_true rfl) rfl ?_
      refine zr_less (L' := [some (.ref 0), some (.int a1), some (.ref r2), some (.int y6), none]) ⟨rfl, ⟨rfl, ⟨rfl, ⟨rfl, trivial⟩⟩⟩⟩ ?_
      exact s_Table_findTakes_L82   hr2 hJ
set_option maxHeartbeats 400000 in
theorem s_Table_findTakes {g : zk_T} {a1 : Int32} {K : Int32 → zm → Prop} {m : zm} (hJ : j_Table_findTakes a1 m K) : zq_Mt (zk_g g) y_Table_findTakes 2 0 0 [.ref 0, .int a1] (zm_hp m) (zm_QI K) := by
  unfold j_Table_findTakes at hJ
  refine zq_meth (ini := false) rfl (fun h => by cases h) (Nat.le_of_ble_eq_true rfl) ?_
  refine zr_L (F := ("RiichiTable", prog_1_method_31_code, 5, (some .int), false, zq_rm 2 0 0)) (L' := [some (.ref 0), some (.int a1), none, none, none]) rfl ?_
  refine zq_aload_n d_Table_findTakes_0 rfl rfl ?_
  refine zm_getR fg_Table_11 d_Table_findTakes_1 zs_Table rfl ?_
  refine zq_iload_n d_Table_findTakes_4 rfl rfl ?_
  obtain ⟨hb1, hJ⟩ := hJ
  refine zm_pld d_Table_findTakes_5 hb1 ?_
  refine zr_topr (fun y2 hy2 => ?_)
  have hJ := hJ y2 hy2
  refine zr_astore_n (L' := [some (.ref 0), some (.int a1), some (.ref y2), none, none]) d_Table_findTakes_6 rfl (Nat.le_of_ble_eq_true rfl) rfl ?_
  refine zq_aload_n d_Table_findTakes_7 rfl rfl ?_
  refine zm_getI fg_Table_93 d_Table_findTakes_8 zs_Table rfl ?_
  refine zq_if_ne (tgt := 32) d_Table_findTakes_11 (by decide) (fun c => ?_) (fun c => ?_)
  · have hJ := hJ.1 c
    refine zr_less (L' := [some (.ref 0), some (.int a1), none, none, none]) ⟨rfl, ⟨rfl, trivial⟩⟩ ?_
    exact s_Table_findTakes_L32    hJ
  · have hJ := hJ.2 c
    refine zq_aload_n d_Table_findTakes_14 rfl rfl ?_
    refine zm_getI fg_Table_74 d_Table_findTakes_15 (hy2.symm ▸ (zm_pl_of hb1) : zm_pl y2).s rfl ?_
    refine zq_if_ne (tgt := 32) d_Table_findTakes_18 (by decide) (fun c => ?_) (fun c => ?_)
    · have hJ := hJ.1 c
      refine zr_less (L' := [some (.ref 0), some (.int a1), none, none, none]) ⟨rfl, ⟨rfl, trivial⟩⟩ ?_
      exact s_Table_findTakes_L32    hJ
    · have hJ := hJ.2 c
      refine zq_aload_n d_Table_findTakes_21 rfl rfl ?_
      refine zm_getR fg_Table_34 d_Table_findTakes_22 zs_Table rfl ?_
      refine zr_cvI (q := 11) (as := []) (st := []) d_Table_findTakes_25 cc_Table_106 cv_Wall_countLeft zs_Wall (s_Wall_countLeft  hJ) rfl ⟨Nat.le_of_ble_eq_true rfl, Nat.le_of_ble_eq_true rfl⟩ (Nat.le_of_ble_eq_true rfl) ⟨Nat.le_refl _, Nat.le_refl _⟩ rfl (fun r4 m3 hJ => ?_)
      refine zq_iconst (v := 1) d_Table_findTakes_28 zk_i1 ?_
      refine zq_icmp_ge (tgt := 34) d_Table_findTakes_29 (by decide) (fun c => ?_) (fun c => ?_)
      · have hJ := hJ.1 c
        refine zq_iconst (v := 0) d_Table_findTakes_34 zk_i0 ?_
        refine zr_istore_n (L' := [some (.ref 0), some (.int a1), some (.ref y2), some (.int 0), none]) d_Table_findTakes_35 rfl (Nat.le_of_ble_eq_true rfl) rfl ?_
        refine zq_aload_n d_Table_findTakes_36 rfl rfl ?_
        refine zm_getR fg_Table_52 d_Table_findTakes_37 (hy2.symm ▸ (zm_pl_of hb1) : zm_pl y2).s rfl ?_
        refine zq_aload_n d_Table_findTakes_40 rfl rfl ?_
        refine zm_getI fg_Table_26 d_Table_findTakes_41 zs_Table rfl ?_
        obtain ⟨hb, hJ⟩ := hJ
        refine zm_ald d_Table_findTakes_44 (zm_pl.c (hy2.symm ▸ (zm_pl_of hb1) : zm_pl y2)) hb ?_
        refine zq_iconst (v := 2) d_Table_findTakes_45 zk_i2 ?_
        refine zq_icmp_lt (tgt := 53) d_Table_findTakes_46 (by decide) (fun c => ?_) (fun c => ?_)
        · have hJ := hJ.1 c
          refine zr_less (L' := [some (.ref 0), some (.int a1), some (.ref y2), some (.int 0), none]) ⟨rfl, ⟨rfl, ⟨rfl, ⟨rfl, trivial⟩⟩⟩⟩ ?_
          exact s_Table_findTakes_L53   (hy2.symm ▸ (zm_pl_of hb1) : zm_pl y2) hJ
        · have hJ := hJ.2 c
          refine zq_iload_n d_Table_findTakes_49 rfl rfl ?_
          refine zq_iconst (v := 4) d_Table_findTakes_50 zk_i4 ?_
          refine zq_ior d_Table_findTakes_51 ?_
          refine zr_topi (fun y5 hy5 => ?_)
          have hJ := hJ y5 hy5
          refine zr_istore_n (L' := [some (.ref 0), some (.int a1), some (.ref y2), some (.int y5), none]) d_Table_findTakes_52 rfl (Nat.le_of_ble_eq_true rfl) rfl ?_
          refine zr_less (L' := [some (.ref 0), some (.int a1), some (.ref y2), some (.int y5), none]) ⟨rfl, ⟨rfl, ⟨rfl, ⟨rfl, trivial⟩⟩⟩⟩ ?_
          exact s_Table_findTakes_L53   (hy2.symm ▸ (zm_pl_of hb1) : zm_pl y2) hJ
      · have hJ := hJ.2 c
        refine zr_less (L' := [some (.ref 0), some (.int a1), none, none, none]) ⟨rfl, ⟨rfl, trivial⟩⟩ ?_
        exact s_Table_findTakes_L32    hJ
set_option maxHeartbeats 400000 in
theorem s_Table_isAnswerMissing_L2 {g : zk_T} {K : Int32 → zm → Prop} : ∀ (n : Nat) {x1 : Int32} {m : zm}, j_Table_isAnswerMissing_L2   K n x1 m → zq_V (zk_g g) ("RiichiTable", prog_1_method_29_code, 2, (some .boolean), false, zq_rm 0 0 0) 0 0 2 [some (.ref 0), some (.int x1)] [] (zm_hp m) (zm_QI K) := by
  intro n
  induction n with
  | zero =>
    intro x1 m hJ
    exact False.elim hJ
  | succ n ih =>
    intro x1 m hJ
    rw [j_Table_isAnswerMissing_L2] at hJ
    refine zq_iload_n d_Table_isAnswerMissing_2 rfl rfl ?_
    refine zq_iconst (v := 4) d_Table_isAnswerMissing_3 zk_i4 ?_
    refine zq_icmp_ge (tgt := 27) d_Table_isAnswerMissing_4 (by decide) (fun c => ?_) (fun c => ?_)
    · have hJ := hJ.1 c
      refine zq_iconst (v := 0) d_Table_isAnswerMissing_27 zk_i0 ?_
      exact zq_iret d_Table_isAnswerMissing_28 rfl (zm_isB.nar (Or.inl rfl)) (Nat.le_refl _) (Nat.le_refl _) ⟨_, _, rfl, rfl, hJ⟩
    · have hJ := hJ.2 c
      refine zq_aload_n d_Table_isAnswerMissing_7 rfl rfl ?_
      refine zm_getR fg_Table_11 d_Table_isAnswerMissing_8 zs_Table rfl ?_
      refine zq_iload_n d_Table_isAnswerMissing_11 rfl rfl ?_
      obtain ⟨hb1, hJ⟩ := hJ
      refine zm_pld d_Table_isAnswerMissing_12 hb1 ?_
      refine zm_getI fg_Table_172 d_Table_isAnswerMissing_13 (zm_pl_of hb1).s rfl ?_
      refine zq_if_eq (tgt := 21) d_Table_isAnswerMissing_16 (by decide) (fun c => ?_) (fun c => ?_)
      · have hJ := hJ.1 c
        refine zr_iinc (d' := 1) d_Table_isAnswerMissing_21 zk_i1 rfl (Nat.le_of_ble_eq_true rfl) (fun y2 hy2 => ?_)
        have hJ := hJ y2 hy2
        refine zr_L (L' := [some (.ref 0), some (.int y2)]) rfl ?_
        refine zq_goto (tgt := 2) d_Table_isAnswerMissing_24 (by decide) ?_
        refine zr_less (L' := [some (.ref 0), some (.int y2)]) ⟨rfl, ⟨rfl, trivial⟩⟩ ?_
        exact ih  hJ
      · have hJ := hJ.2 c
        refine zq_iconst (v := 1) d_Table_isAnswerMissing_19 zk_i1 ?_
        exact zq_iret d_Table_isAnswerMissing_20 rfl (zm_isB.nar (Or.inr rfl)) (Nat.le_refl _) (Nat.le_refl _) ⟨_, _, rfl, rfl, hJ⟩
set_option maxHeartbeats 400000 in
theorem s_Table_isAnswerMissing {g : zk_T} {K : Int32 → zm → Prop} {m : zm} (hJ : j_Table_isAnswerMissing  m K) : zq_Mt (zk_g g) y_Table_isAnswerMissing 0 0 0 [.ref 0] (zm_hp m) (zm_QI K) := by
  unfold j_Table_isAnswerMissing at hJ
  refine zq_meth (ini := false) rfl (fun h => by cases h) (Nat.le_of_ble_eq_true rfl) ?_
  refine zr_L (F := ("RiichiTable", prog_1_method_29_code, 2, (some .boolean), false, zq_rm 0 0 0)) (L' := [some (.ref 0), none]) rfl ?_
  refine zq_iconst (v := 0) d_Table_isAnswerMissing_0 zk_i0 ?_
  refine zr_istore_n (L' := [some (.ref 0), some (.int 0)]) d_Table_isAnswerMissing_1 rfl (Nat.le_of_ble_eq_true rfl) rfl ?_
  refine zr_less (L' := [some (.ref 0), some (.int 0)]) ⟨rfl, ⟨rfl, trivial⟩⟩ ?_
  obtain ⟨n2, hJ⟩ := hJ
  exact s_Table_isAnswerMissing_L2   n2  hJ
