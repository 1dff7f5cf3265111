set_option maxHeartbeats 400000 in
theorem s_Player_isClosed_L2 {g : zk_T} {q : Nat} (hq : zm_pl q) {K : Int32 → zm → Prop} : ∀ (n : Nat) {x1 : Int32} {m : zm}, j_Player_isClosed_L2 q  K n x1 m → zq_V (zk_g g) ("RiichiTable$Player", prog_3_method_7_code, 2, (some .boolean), false, zq_rm 0 0 0) 0 0 2 [some (.ref q), some (.int x1)] [] (zm_hp m) (zm_QI K) := by
  intro n
  induction n with
  | zero =>
    intro x1 m hJ
    exact False.elim hJ
  | succ n ih =>
    intro x1 m hJ
    rw [j_Player_isClosed_L2] at hJ
    refine zq_iload_n d_Player_isClosed_2 rfl rfl ?_
    refine zq_aload_n d_Player_isClosed_3 rfl rfl ?_
    refine zm_getI fg_Player_38 d_Player_isClosed_4 hq.s rfl ?_
    refine zq_icmp_ge (tgt := 30) d_Player_isClosed_7 (by decide) (fun c => ?_) (fun c => ?_)
    · have hJ := hJ.1 c
      refine zq_iconst (v := 1) d_Player_isClosed_30 zk_i1 ?_
      exact zq_iret d_Player_isClosed_31 rfl (zm_isB.nar (Or.inr rfl)) (Nat.le_refl _) (Nat.le_refl _) ⟨_, _, rfl, rfl, hJ⟩
    · have hJ := hJ.2 c
      refine zq_aload_n d_Player_isClosed_10 rfl rfl ?_
      refine zm_getR fg_Player_15 d_Player_isClosed_11 hq.s rfl ?_
      refine zq_iload_n d_Player_isClosed_14 rfl rfl ?_
      obtain ⟨hb, hJ⟩ := hJ
      refine zm_ald d_Player_isClosed_15 (zm_pl.m hq) hb ?_
      refine zq_iconst (v := 4) d_Player_isClosed_16 zk_i4 ?_
      refine zq_irem d_Player_isClosed_17 (by decide) ?_
      refine zq_iconst (v := 3) d_Player_isClosed_18 zk_i3 ?_
      refine zq_icmp_eq (tgt := 24) d_Player_isClosed_19 (by decide) (fun c => ?_) (fun c => ?_)
      · have hJ := hJ.1 c
        refine zr_iinc (d' := 1) d_Player_isClosed_24 zk_i1 rfl (Nat.le_of_ble_eq_true rfl) (fun y1 hy1 => ?_)
        have hJ := hJ y1 hy1
        refine zr_L (L' := [some (.ref q), some (.int y1)]) rfl ?_
        refine zq_goto (tgt := 2) d_Player_isClosed_27 (by decide) ?_
        refine zr_less (L' := [some (.ref q), some (.int y1)]) ⟨rfl, ⟨rfl, trivial⟩⟩ ?_
        exact ih  hJ
      · have hJ := hJ.2 c
        refine zq_iconst (v := 0) d_Player_isClosed_22 zk_i0 ?_
        exact zq_iret d_Player_isClosed_23 rfl (zm_isB.nar (Or.inl rfl)) (Nat.le_refl _) (Nat.le_refl _) ⟨_, _, rfl, rfl, hJ⟩
set_option maxHeartbeats 400000 in
theorem s_Player_isClosed {g : zk_T} {q : Nat} (hq : zm_pl q) {K : Int32 → zm → Prop} {m : zm} (hJ : j_Player_isClosed q m K) : zq_Mt (zk_g g) y_Player_isClosed 0 0 0 [.ref q] (zm_hp m) (zm_QI K) := by
  unfold j_Player_isClosed at hJ
  refine zq_meth (ini := false) rfl (fun h => by cases h) (Nat.le_of_ble_eq_true rfl) ?_
  refine zr_L (F := ("RiichiTable$Player", prog_3_method_7_code, 2, (some .boolean), false, zq_rm 0 0 0)) (L' := [some (.ref q), none]) rfl ?_
  refine zq_iconst (v := 0) d_Player_isClosed_0 zk_i0 ?_
  refine zr_istore_n (L' := [some (.ref q), some (.int 0)]) d_Player_isClosed_1 rfl (Nat.le_of_ble_eq_true rfl) rfl ?_
  refine zr_less (L' := [some (.ref q), some (.int 0)]) ⟨rfl, ⟨rfl, trivial⟩⟩ ?_
  obtain ⟨n2, hJ⟩ := hJ
  exact s_Player_isClosed_L2 hq  n2  hJ
set_option maxHeartbeats 400000 in
theorem s_Shape_countIn_L29 {g : zk_T} {a0 : Int32} {a1 : Int32} {K : Int32 → zm → Prop} {t0 : Int32} {m : zm} (hJ : j_Shape_countIn_L29 a0 a1  K t0 m) : zq_V (zk_g g) ("RiichiTable$Shape", prog_4_method_3_code, 4, (some .int), false, zq_rm 0 0 0) 0 0 29 [some (.int a0), some (.int a1), none, none] [.int t0] (zm_hp m) (zm_QI K) := by
  unfold j_Shape_countIn_L29 at hJ
  exact zq_iret d_Shape_countIn_29 rfl rfl (Nat.le_refl _) (Nat.le_refl _) ⟨_, _, rfl, rfl, hJ⟩
set_option maxHeartbeats 400000 in
theorem s_Shape_countIn_L28 {g : zk_T} {a0 : Int32} {a1 : Int32} {K : Int32 → zm → Prop} {m : zm} (hJ : j_Shape_countIn_L28 a0 a1  K  m) : zq_V (zk_g g) ("RiichiTable$Shape", prog_4_method_3_code, 4, (some .int), false, zq_rm 0 0 0) 0 0 28 [some (.int a0), some (.int a1), none, none] [] (zm_hp m) (zm_QI K) := by
  unfold j_Shape_countIn_L28 at hJ
  refine zq_iconst (v := 0) d_Shape_countIn_28 zk_i0 ?_
  refine zr_less (L' := [some (.int a0), some (.int a1), none, none]) ⟨rfl, ⟨rfl, trivial⟩⟩ ?_
  exact s_Shape_countIn_L29    hJ
set_option maxHeartbeats 400000 in
theorem s_Shape_countIn_L47 {g : zk_T} {a0 : Int32} {a1 : Int32} {K : Int32 → zm → Prop} {t0 : Int32} {m : zm} (hJ : j_Shape_countIn_L47 a0 a1  K t0 m) : zq_V (zk_g g) ("RiichiTable$Shape", prog_4_method_3_code, 4, (some .int), false, zq_rm 0 0 0) 0 0 47 [some (.int a0), some (.int a1), none, none] [.int t0] (zm_hp m) (zm_QI K) := by
  unfold j_Shape_countIn_L47 at hJ
  exact zq_iret d_Shape_countIn_47 rfl rfl (Nat.le_refl _) (Nat.le_refl _) ⟨_, _, rfl, rfl, hJ⟩
set_option maxHeartbeats 400000 in
theorem s_Shape_countIn {g : zk_T} {a0 : Int32} {a1 : Int32} {K : Int32 → zm → Prop} {m : zm} (hJ : j_Shape_countIn a0 a1 m K) : zq_Mt (zk_g g) y_Shape_countIn 0 0 0 [.int a0, .int a1] (zm_hp m) (zm_QI K) := by
  unfold j_Shape_countIn at hJ
  refine zq_meth (ini := false) rfl (fun h => by cases h) (Nat.le_of_ble_eq_true rfl) ?_
  refine zr_L (F := ("RiichiTable$Shape", prog_4_method_3_code, 4, (some .int), false, zq_rm 0 0 0)) (L' := [some (.int a0), some (.int a1), none, none]) rfl ?_
  refine zq_iload_n d_Shape_countIn_0 rfl rfl ?_
  refine zq_iconst (v := 4) d_Shape_countIn_1 zk_i4 ?_
  refine zq_idiv d_Shape_countIn_2 (by decide) ?_
  refine zr_topi (fun y1 hy1 => ?_)
  have hJ := hJ y1 hy1
  refine zr_istore_n (L' := [some (.int a0), some (.int a1), some (.int y1), none]) d_Shape_countIn_3 rfl (Nat.le_of_ble_eq_true rfl) rfl ?_
  refine zq_iload_n d_Shape_countIn_4 rfl rfl ?_
  refine zq_iconst (v := 4) d_Shape_countIn_5 zk_i4 ?_
  refine zq_irem d_Shape_countIn_6 (by decide) ?_
  refine zr_topi (fun y2 hy2 => ?_)
  have hJ := hJ y2 hy2
  refine zr_istore_n (L' := [some (.int a0), some (.int a1), some (.int y1), some (.int y2)]) d_Shape_countIn_7 rfl (Nat.le_of_ble_eq_true rfl) rfl ?_
  refine zq_iload_n d_Shape_countIn_8 rfl rfl ?_
  refine zq_if_ne (tgt := 30) d_Shape_countIn_9 (by decide) (fun c => ?_) (fun c => ?_)
  · have hJ := hJ.1 c
    refine zq_iload_n d_Shape_countIn_30 rfl rfl ?_
    refine zq_iload_n d_Shape_countIn_31 rfl rfl ?_
    refine zq_icmp_eq (tgt := 37) d_Shape_countIn_32 (by decide) (fun c => ?_) (fun c => ?_)
    · have hJ := hJ.1 c
      refine zq_iload_n d_Shape_countIn_37 rfl rfl ?_
      refine zq_iconst (v := 1) d_Shape_countIn_38 zk_i1 ?_
      refine zq_icmp_ne (tgt := 46) d_Shape_countIn_39 (by decide) (fun c => ?_) (fun c => ?_)
      · have hJ := hJ.1 c
        refine zq_iconst (v := 4) d_Shape_countIn_46 zk_i4 ?_
        refine zr_less (L' := [some (.int a0), some (.int a1), none, none]) ⟨rfl, ⟨rfl, trivial⟩⟩ ?_
        exact s_Shape_countIn_L47    hJ
      · have hJ := hJ.2 c
        refine zq_iconst (v := 3) d_Shape_countIn_42 zk_i3 ?_
        refine zq_goto (tgt := 47) d_Shape_countIn_43 (by decide) ?_
        refine zr_less (L' := [some (.int a0), some (.int a1), none, none]) ⟨rfl, ⟨rfl, trivial⟩⟩ ?_
        exact s_Shape_countIn_L47    hJ
    · have hJ := hJ.2 c
      refine zq_iconst (v := 0) d_Shape_countIn_35 zk_i0 ?_
      exact zq_iret d_Shape_countIn_36 rfl rfl (Nat.le_refl _) (Nat.le_refl _) ⟨_, _, rfl, rfl, hJ⟩
  · have hJ := hJ.2 c
    refine zq_iload_n d_Shape_countIn_12 rfl rfl ?_
    refine zq_iload_n d_Shape_countIn_13 rfl rfl ?_
    refine zq_icmp_lt (tgt := 28) d_Shape_countIn_14 (by decide) (fun c => ?_) (fun c => ?_)
    · have hJ := hJ.1 c
      refine zr_less (L' := [some (.int a0), some (.int a1), none, none]) ⟨rfl, ⟨rfl, trivial⟩⟩ ?_
      exact s_Shape_countIn_L28    hJ
    · have hJ := hJ.2 c
      refine zq_iload_n d_Shape_countIn_17 rfl rfl ?_
      refine zq_iload_n d_Shape_countIn_18 rfl rfl ?_
      refine zq_iconst (v := 2) d_Shape_countIn_19 zk_i2 ?_
      refine zq_iadd d_Shape_countIn_20 ?_
      refine zq_icmp_gt (tgt := 28) d_Shape_countIn_21 (by decide) (fun c => ?_) (fun c => ?_)
      · have hJ := hJ.1 c
        refine zr_less (L' := [some (.int a0), some (.int a1), none, none]) ⟨rfl, ⟨rfl, trivial⟩⟩ ?_
        exact s_Shape_countIn_L28    hJ
      · have hJ := hJ.2 c
        refine zq_iconst (v := 1) d_Shape_countIn_24 zk_i1 ?_
        refine zq_goto (tgt := 29) d_Shape_countIn_25 (by decide) ?_
        refine zr_less (L' := [some (.int a0), some (.int a1), none, none]) ⟨rfl, ⟨rfl, trivial⟩⟩ ?_
        exact s_Shape_countIn_L29    hJ
set_option maxHeartbeats 400000 in
theorem s_Splitter_addSets_L41 {g : zk_T} {a1 : Int32} {a2 : Int32} {K : zm → Prop} {m : zm} (hJ : j_Splitter_addSets_L41 a1 a2  K  m) : zq_V (zk_g g) ("RiichiTable$Splitter", prog_5_method_8_code, 4, none, false, zq_rm 0 0 0) 0 0 41 [some (.ref 3), some (.int a1), some (.int a2), none] [] (zm_hp m) (zm_QV K) := by
  unfold j_Splitter_addSets_L41 at hJ
  exact zq_vret d_Splitter_addSets_41 rfl (Nat.le_refl _) (Nat.le_refl _) ⟨_, rfl, rfl, hJ⟩
set_option maxHeartbeats 400000 in
theorem s_Splitter_addSets_L2 {g : zk_T} {a1 : Int32} {a2 : Int32} {K : zm → Prop} : ∀ (n : Nat) {x3 : Int32} {m : zm}, j_Splitter_addSets_L2 a1 a2  K n x3 m → zq_V (zk_g g) ("RiichiTable$Splitter", prog_5_method_8_code, 4, none, false, zq_rm 0 0 0) 0 0 2 [some (.ref 3), some (.int a1), some (.int a2), some (.int x3)] [] (zm_hp m) (zm_QV K) := by
  intro n
  induction n with
  | zero =>
    intro x3 m hJ
    exact False.elim hJ
  | succ n ih =>
    intro x3 m hJ
    rw [j_Splitter_addSets_L2] at hJ
    refine zq_iload_n d_Splitter_addSets_2 rfl rfl ?_
    refine zq_iload_n d_Splitter_addSets_3 rfl rfl ?_
    refine zq_icmp_ge (tgt := 41) d_Splitter_addSets_4 (by decide) (fun c => ?_) (fun c => ?_)
    · have hJ := hJ.1 c
      refine zr_less (L' := [some (.ref 3), some (.int a1), some (.int a2), none]) ⟨rfl, ⟨rfl, ⟨rfl, trivial⟩⟩⟩ ?_
      exact s_Splitter_addSets_L41    hJ
    · have hJ := hJ.2 c
      refine zq_aload_n d_Splitter_addSets_7 rfl rfl ?_
      refine zm_getI fg_Splitter_21 d_Splitter_addSets_8 zs_Splitter rfl ?_
      refine zq_iconst (v := 4) d_Splitter_addSets_11 zk_i4 ?_
      refine zq_icmp_ge (tgt := 41) d_Splitter_addSets_12 (by decide) (fun c => ?_) (fun c => ?_)
      · have hJ := hJ.1 c
        refine zr_less (L' := [some (.ref 3), some (.int a1), some (.int a2), none]) ⟨rfl, ⟨rfl, ⟨rfl, trivial⟩⟩⟩ ?_
        exact s_Splitter_addSets_L41    hJ
      · have hJ := hJ.2 c
        refine zq_aload_n d_Splitter_addSets_15 rfl rfl ?_
        refine zm_getR fg_Splitter_15 d_Splitter_addSets_16 zs_Splitter rfl ?_
        refine zq_aload_n d_Splitter_addSets_19 rfl rfl ?_
        refine zm_getI fg_Splitter_21 d_Splitter_addSets_20 zs_Splitter rfl ?_
        refine zq_iload_n d_Splitter_addSets_23 rfl rfl ?_
        obtain ⟨hb, hJ⟩ := hJ
        refine zr_ast d_Splitter_addSets_24 (rfl : zm_sh[5]? = some (.inl (0, 4, .inl (fun _ => 0)))) hb (fun m1 hm1 => ?_)
        have hJ := hJ m1 hm1
        refine zq_aload_n d_Splitter_addSets_25 rfl rfl ?_
        refine zq_dup d_Splitter_addSets_26 rfl ?_
        refine zm_getI fg_Splitter_21 d_Splitter_addSets_27 zs_Splitter rfl ?_
        refine zq_iconst (v := 1) d_Splitter_addSets_30 zk_i1 ?_
        refine zq_iadd d_Splitter_addSets_31 ?_
        refine zr_putI fl_Splitter_21 d_Splitter_addSets_32 zs_Splitter rfl rfl (fun m2 hm2 => ?_)
        have hJ := hJ m2 hm2
        refine zr_iinc (d' := 1) d_Splitter_addSets_35 zk_i1 rfl (Nat.le_of_ble_eq_true rfl) (fun y3 hy3 => ?_)
        have hJ := hJ y3 hy3
        refine zr_L (L' := [some (.ref 3), some (.int a1), some (.int a2), some (.int y3)]) rfl ?_
        refine zq_goto (tgt := 2) d_Splitter_addSets_38 (by decide) ?_
        refine zr_less (L' := [some (.ref 3), some (.int a1), some (.int a2), some (.int y3)]) ⟨rfl, ⟨rfl, ⟨rfl, ⟨rfl, trivial⟩⟩⟩⟩ ?_
        exact ih  hJ
set_option maxHeartbeats 400000 in
theorem s_Splitter_addSets {g : zk_T} {a1 : Int32} {a2 : Int32} {K : zm → Prop} {m : zm} (hJ : j_Splitter_addSets a1 a2 m K) : zq_Mt (zk_g g) y_Splitter_addSets 0 0 0 [.ref 3, .int a1, .int a2] (zm_hp m) (zm_QV K) := by
  unfold j_Splitter_addSets at hJ
  refine zq_meth (ini := false) rfl (fun h => by cases h) (Nat.le_of_ble_eq_true rfl) ?_
  refine zr_L (F := ("RiichiTable$Splitter", prog_5_method_8_code, 4, none, false, zq_rm 0 0 0)) (L' := [some (.ref 3), some (.int a1), some (.int a2), none]) rfl ?_
  refine zq_iconst (v := 0) d_Splitter_addSets_0 zk_i0 ?_
  refine zr_istore_n (L' := [some (.ref 3), some (.int a1), some (.int a2), some (.int 0)]) d_Splitter_addSets_1 rfl (Nat.le_of_ble_eq_true rfl) rfl ?_
  refine zr_less (L' := [some (.ref 3), some (.int a1), some (.int a2), some (.int 0)]) ⟨rfl, ⟨rfl, ⟨rfl, ⟨rfl, trivial⟩⟩⟩⟩ ?_
  obtain ⟨n2, hJ⟩ := hJ
  exact s_Splitter_addSets_L2   n2  hJ
set_option maxHeartbeats 400000 in
theorem s_Splitter_takeMelds_L7 {g : zk_T} {r1 : Nat} (hr1 : zm_pl r1) {K : zm → Prop} : ∀ (n : Nat) {x2 : Int32} {m : zm}, j_Splitter_takeMelds_L7 r1  K n x2 m → zq_V (zk_g g) ("RiichiTable$Splitter", prog_5_method_2_code, 3, none, false, zq_rm 1 0 0) 0 0 7 [some (.ref 3), some (.ref r1), some (.int x2)] [] (zm_hp m) (zm_QV K) := by
  intro n
  induction n with
  | zero =>
    intro x2 m hJ
    exact False.elim hJ
  | succ n ih =>
    intro x2 m hJ
    rw [j_Splitter_takeMelds_L7] at hJ
    refine zq_iload_n d_Splitter_takeMelds_7 rfl rfl ?_
    refine zq_aload_n d_Splitter_takeMelds_8 rfl rfl ?_
    refine zm_getI fg_Splitter_25 d_Splitter_takeMelds_9 hr1.s rfl ?_
    refine zq_icmp_ge (tgt := 32) d_Splitter_takeMelds_12 (by decide) (fun c => ?_) (fun c => ?_)
    · have hJ := hJ.1 c
      exact zq_vret d_Splitter_takeMelds_32 rfl (Nat.le_refl _) (Nat.le_refl _) ⟨_, rfl, rfl, hJ⟩
    · have hJ := hJ.2 c
      refine zq_aload_n d_Splitter_takeMelds_15 rfl rfl ?_
      refine zq_aload_n d_Splitter_takeMelds_16 rfl rfl ?_
      refine zm_getR fg_Splitter_30 d_Splitter_takeMelds_17 hr1.s rfl ?_
      refine zq_iload_n d_Splitter_takeMelds_20 rfl rfl ?_
      obtain ⟨hb, hJ⟩ := hJ
      refine zm_ald d_Splitter_takeMelds_21 (zm_pl.m hr1) hb ?_
      refine zq_iconst (v := 1) d_Splitter_takeMelds_22 zk_i1 ?_
      refine zr_cvV (q := 3) (as := [.int (m.1 (r1 + 2) (Int32.toNatClampNeg x2)), .int 1]) (st := []) d_Splitter_takeMelds_23 cc_Splitter_33 cv_Splitter_addSets zs_Splitter (s_Splitter_addSets  hJ) rfl ⟨Nat.le_of_ble_eq_true rfl, Nat.le_of_ble_eq_true rfl⟩ (Nat.le_of_ble_eq_true rfl) ⟨Nat.le_refl _, Nat.le_refl _⟩ rfl (fun m2 hJ => ?_)
      refine zr_iinc (d' := 1) d_Splitter_takeMelds_26 zk_i1 rfl (Nat.le_of_ble_eq_true rfl) (fun y3 hy3 => ?_)
      have hJ := hJ y3 hy3
      refine zr_L (L' := [some (.ref 3), some (.ref r1), some (.int y3)]) rfl ?_
      refine zq_goto (tgt := 7) d_Splitter_takeMelds_29 (by decide) ?_
      refine zr_less (L' := [some (.ref 3), some (.ref r1), some (.int y3)]) ⟨rfl, ⟨rfl, ⟨rfl, trivial⟩⟩⟩ ?_
      exact ih  hJ
set_option maxHeartbeats 400000 in
theorem s_Splitter_takeMelds {g : zk_T} {r1 : Nat} (hr1 : zm_pl r1) {K : zm → Prop} {m : zm} (hJ : j_Splitter_takeMelds r1 m K) : zq_Mt (zk_g g) y_Splitter_takeMelds 1 0 0 [.ref 3, .ref r1] (zm_hp m) (zm_QV K) := by
  unfold j_Splitter_takeMelds at hJ
  refine zq_meth (ini := false) rfl (fun h => by cases h) (Nat.le_of_ble_eq_true rfl) ?_
  refine zr_L (F := ("RiichiTable$Splitter", prog_5_method_2_code, 3, none, false, zq_rm 1 0 0)) (L' := [some (.ref 3), some (.ref r1), none]) rfl ?_
  refine zq_aload_n d_Splitter_takeMelds_0 rfl rfl ?_
  refine zq_iconst (v := 0) d_Splitter_takeMelds_1 zk_i0 ?_
  refine zr_putI fl_Splitter_21 d_Splitter_takeMelds_2 zs_Splitter rfl rfl (fun m1 hm1 => ?_)
  have hJ := hJ m1 hm1
  refine zq_iconst (v := 0) d_Splitter_takeMelds_5 zk_i0 ?_
  refine zr_istore_n (L' := [some (.ref 3), some (.ref r1), some (.int 0)]) d_Splitter_takeMelds_6 rfl (Nat.le_of_ble_eq_true rfl) rfl ?_
  refine zr_less (L' := [some (.ref 3), some (.ref r1), some (.int 0)]) ⟨rfl, ⟨rfl, ⟨rfl, trivial⟩⟩⟩ ?_
  obtain ⟨n7, hJ⟩ := hJ
  exact s_Splitter_takeMelds_L7 hr1  n7  hJ
set_option maxHeartbeats 400000 in
theorem s_Judge_lookAt_L84 {g : zk_T} {r1 : Nat} {a2 : Int32} {a3 : Int32} (hr1 : zm_pl r1) {R37 : Int32 → zm → Prop} {K : zm → Prop} (hR37 : ∀ {x4 : Int32} {m : zm}, R37 x4 m → zq_V (zk_g g) ("RiichiTable$Judge", prog_2_method_2_code, 7, none, false, zq_rm 2 0 0) 0 0 37 [some (.ref 2), some (.ref r1), some (.int a2), some (.int a3), some (.int x4), none, none] [] (zm_hp m) (zm_QV K)) : ∀ (n : Nat) {x4 : Int32} {x5 : Int32} {x6 : Int32} {m : zm}, j_Judge_lookAt_L84 r1 a2 a3 R37 K n x4 x5 x6 m → zq_V (zk_g g) ("RiichiTable$Judge", prog_2_method_2_code, 7, none, false, zq_rm 2 0 0) 0 0 84 [some (.ref 2), some (.ref r1), some (.int a2), some (.int a3), some (.int x4), some (.int x5), some (.int x6)] [] (zm_hp m) (zm_QV K) := by
  intro n
  induction n with
  | zero =>
    intro x4 x5 x6 m hJ
    exact False.elim hJ
  | succ n ih =>
    intro x4 x5 x6 m hJ
    rw [j_Judge_lookAt_L84] at hJ
    refine zq_iload d_Judge_lookAt_84 rfl ?_
    refine zq_aload_n d_Judge_lookAt_86 rfl rfl ?_
    refine zm_getI fg_Judge_43 d_Judge_lookAt_87 hr1.s rfl ?_
    refine zq_icmp_ge (tgt := 116) d_Judge_lookAt_90 (by decide) (fun c => ?_) (fun c => ?_)
    · have hJ := hJ.1 c
      refine zq_aload_n d_Judge_lookAt_116 rfl rfl ?_
      refine zm_getR fg_Judge_18 d_Judge_lookAt_117 zs_Judge rfl ?_
      refine zq_iload d_Judge_lookAt_120 rfl ?_
      refine zq_iload d_Judge_lookAt_122 rfl ?_
      obtain ⟨hb, hJ⟩ := hJ
      refine zr_ast d_Judge_lookAt_124 (rfl : zm_sh[7]? = some (.inl (0, 34, .inl (fun _ => 0)))) hb (fun m10 hm10 => ?_)
      have hJ := hJ m10 hm10
      refine zr_iinc (d' := 1) d_Judge_lookAt_125 zk_i1 rfl (Nat.le_of_ble_eq_true rfl) (fun y11 hy11 => ?_)
      have hJ := hJ y11 hy11
      refine zr_L (L' := [some (.ref 2), some (.ref r1), some (.int a2), some (.int a3), some (.int y11), some (.int x5), some (.int x6)]) rfl ?_
      refine zq_goto (tgt := 37) d_Judge_lookAt_128 (by decide) ?_
      refine zr_less (L' := [some (.ref 2), some (.ref r1), some (.int a2), some (.int a3), some (.int y11), none, none]) ⟨rfl, ⟨rfl, ⟨rfl, ⟨rfl, ⟨rfl, trivial⟩⟩⟩⟩⟩ ?_
      exact hR37  hJ
    · have hJ := hJ.2 c
      refine zq_iload d_Judge_lookAt_93 rfl ?_
      refine zq_aload_n d_Judge_lookAt_95 rfl rfl ?_
      refine zm_getR fg_Judge_66 d_Judge_lookAt_96 hr1.s rfl ?_
      refine zq_iload d_Judge_lookAt_99 rfl ?_
      obtain ⟨hb, hJ⟩ := hJ
      refine zm_ald d_Judge_lookAt_101 (zm_pl.m hr1) hb ?_
      refine zq_iload d_Judge_lookAt_102 rfl ?_
      refine zr_csI (as := [.int (m.1 (r1 + 2) (Int32.toNatClampNeg x6)), .int x4]) (st := [.int x5]) d_Judge_lookAt_104 cc_Judge_69 cs_Shape_countIn (s_Shape_countIn  hJ) rfl ⟨Nat.le_of_ble_eq_true rfl, Nat.le_of_ble_eq_true rfl⟩ (Nat.le_of_ble_eq_true rfl) ⟨Nat.le_refl _, Nat.le_refl _⟩ rfl (fun r13 m12 hJ => ?_)
      refine zq_iadd d_Judge_lookAt_107 ?_
      refine zr_topi (fun y14 hy14 => ?_)
      have hJ := hJ y14 hy14
      refine zr_istore (L' := [some (.ref 2), some (.ref r1), some (.int a2), some (.int a3), some (.int x4), some (.int y14), some (.int x6)]) d_Judge_lookAt_108 (Nat.le_of_ble_eq_true rfl) rfl ?_
      refine zr_iinc (d' := 1) d_Judge_lookAt_110 zk_i1 rfl (Nat.le_of_ble_eq_true rfl) (fun y15 hy15 => ?_)
      have hJ := hJ y15 hy15
      refine zr_L (L' := [some (.ref 2), some (.ref r1), some (.int a2), some (.int a3), some (.int x4), some (.int y14), some (.int y15)]) rfl ?_
      refine zq_goto (tgt := 84) d_Judge_lookAt_113 (by decide) ?_
      refine zr_less (L' := [some (.ref 2), some (.ref r1), some (.int a2), some (.int a3), some (.int x4), some (.int y14), some (.int y15)]) ⟨rfl, ⟨rfl, ⟨rfl, ⟨rfl, ⟨rfl, ⟨rfl, ⟨rfl, trivial⟩⟩⟩⟩⟩⟩⟩ ?_
      exact ih  hJ
set_option maxHeartbeats 400000 in
theorem s_Judge_lookAt_L66 {g : zk_T} {r1 : Nat} {a2 : Int32} {a3 : Int32} (hr1 : zm_pl r1) {R37 : Int32 → zm → Prop} {K : zm → Prop} (hR37 : ∀ {x4 : Int32} {m : zm}, R37 x4 m → zq_V (zk_g g) ("RiichiTable$Judge", prog_2_method_2_code, 7, none, false, zq_rm 2 0 0) 0 0 37 [some (.ref 2), some (.ref r1), some (.int a2), some (.int a3), some (.int x4), none, none] [] (zm_hp m) (zm_QV K)) {x4 : Int32} {t0 : Int32} {t1 : Int32} {m : zm} (hJ : j_Judge_lookAt_L66 r1 a2 a3 R37 K x4 t0 t1 m) : zq_V (zk_g g) ("RiichiTable$Judge", prog_2_method_2_code, 7, none, false, zq_rm 2 0 0) 0 0 66 [some (.ref 2), some (.ref r1), some (.int a2), some (.int a3), some (.int x4), none, none] [.int t0, .int t1] (zm_hp m) (zm_QV K) := by
  unfold j_Judge_lookAt_L66 at hJ
  refine zq_iadd d_Judge_lookAt_66 ?_
  refine zr_topi (fun y8 hy8 => ?_)
  have hJ := hJ y8 hy8
  refine zr_istore (L' := [some (.ref 2), some (.ref r1), some (.int a2), some (.int a3), some (.int x4), some (.int y8), none]) d_Judge_lookAt_67 (Nat.le_of_ble_eq_true rfl) rfl ?_
  refine zq_aload_n d_Judge_lookAt_69 rfl rfl ?_
  refine zm_getR fg_Judge_12 d_Judge_lookAt_70 zs_Judge rfl ?_
  refine zm_getR fg_Judge_63 d_Judge_lookAt_73 zs_Splitter rfl ?_
  refine zq_iload d_Judge_lookAt_76 rfl ?_
  refine zq_iload d_Judge_lookAt_78 rfl ?_
  obtain ⟨hb, hJ⟩ := hJ
  refine zr_ast d_Judge_lookAt_80 (rfl : zm_sh[4]? = some (.inl (0, 34, .inl (fun _ => 0)))) hb (fun m9 hm9 => ?_)
  have hJ := hJ m9 hm9
  refine zq_iconst (v := 0) d_Judge_lookAt_81 zk_i0 ?_
  refine zr_istore (L' := [some (.ref 2), some (.ref r1), some (.int a2), some (.int a3), some (.int x4), some (.int y8), some (.int 0)]) d_Judge_lookAt_82 (Nat.le_of_ble_eq_true rfl) rfl ?_
  refine zr_less (L' := [some (.ref 2), some (.ref r1), some (.int a2), some (.int a3), some (.int x4), some (.int y8), some (.int 0)]) ⟨rfl, ⟨rfl, ⟨rfl, ⟨rfl, ⟨rfl, ⟨rfl, ⟨rfl, trivial⟩⟩⟩⟩⟩⟩⟩ ?_
  obtain ⟨n84, hJ⟩ := hJ
  exact s_Judge_lookAt_L84 hr1 hR37 n84  hJ
set_option maxHeartbeats 400000 in
theorem s_Judge_lookAt_L65 {g : zk_T} {r1 : Nat} {a2 : Int32} {a3 : Int32} (hr1 : zm_pl r1) {R37 : Int32 → zm → Prop} {K : zm → Prop} (hR37 : ∀ {x4 : Int32} {m : zm}, R37 x4 m → zq_V (zk_g g) ("RiichiTable$Judge", prog_2_method_2_code, 7, none, false, zq_rm 2 0 0) 0 0 37 [some (.ref 2), some (.ref r1), some (.int a2), some (.int a3), some (.int x4), none, none] [] (zm_hp m) (zm_QV K)) {x4 : Int32} {t0 : Int32} {m : zm} (hJ : j_Judge_lookAt_L65 r1 a2 a3 R37 K x4 t0 m) : zq_V (zk_g g) ("RiichiTable$Judge", prog_2_method_2_code, 7, none, false, zq_rm 2 0 0) 0 0 65 [some (.ref 2), some (.ref r1), some (.int a2), some (.int a3), some (.int x4), none, none] [.int t0] (zm_hp m) (zm_QV K) := by
  unfold j_Judge_lookAt_L65 at hJ
  refine zq_iconst (v := 0) d_Judge_lookAt_65 zk_i0 ?_
  refine zr_less (L' := [some (.ref 2), some (.ref r1), some (.int a2), some (.int a3), some (.int x4), none, none]) ⟨rfl, ⟨rfl, ⟨rfl, ⟨rfl, ⟨rfl, trivial⟩⟩⟩⟩⟩ ?_
  exact s_Judge_lookAt_L66 hr1 hR37  hJ
set_option maxHeartbeats 400000 in
theorem s_Judge_lookAt_L37 {g : zk_T} {r1 : Nat} {a2 : Int32} {a3 : Int32} (hr1 : zm_pl r1) {K : zm → Prop} : ∀ (n : Nat) {x4 : Int32} {m : zm}, j_Judge_lookAt_L37 r1 a2 a3  K n x4 m → zq_V (zk_g g) ("RiichiTable$Judge", prog_2_method_2_code, 7, none, false, zq_rm 2 0 0) 0 0 37 [some (.ref 2), some (.ref r1), some (.int a2), some (.int a3), some (.int x4), none, none] [] (zm_hp m) (zm_QV K) := by
  intro n
  induction n with
  | zero =>
    intro x4 m hJ
    exact False.elim hJ
  | succ n ih =>
    intro x4 m hJ
    rw [j_Judge_lookAt_L37] at hJ
    refine zq_iload d_Judge_lookAt_37 rfl ?_
    refine zq_bipush (v := 34) d_Judge_lookAt_39 zk_b34 ?_
    refine zq_icmp_ge (tgt := 131) d_Judge_lookAt_41 (by decide) (fun c => ?_) (fun c => ?_)
    · have hJ := hJ.1 c
      exact zq_vret d_Judge_lookAt_131 rfl (Nat.le_refl _) (Nat.le_refl _) ⟨_, rfl, rfl, hJ⟩
    · have hJ := hJ.2 c
      refine zq_aload_n d_Judge_lookAt_44 rfl rfl ?_
      refine zm_getR fg_Judge_60 d_Judge_lookAt_45 hr1.s rfl ?_
      refine zq_iload d_Judge_lookAt_48 rfl ?_
      obtain ⟨hb, hJ⟩ := hJ
      refine zm_ald d_Judge_lookAt_50 (zm_pl.c hr1) hb ?_
      refine zq_iload d_Judge_lookAt_51 rfl ?_
      refine zq_iload_n d_Judge_lookAt_53 rfl rfl ?_
      refine zq_icmp_ne (tgt := 65) d_Judge_lookAt_54 (by decide) (fun c => ?_) (fun c => ?_)
      · have hJ := hJ.1 c
        refine zr_less (L' := [some (.ref 2), some (.ref r1), some (.int a2), some (.int a3), some (.int x4), none, none]) ⟨rfl, ⟨rfl, ⟨rfl, ⟨rfl, ⟨rfl, trivial⟩⟩⟩⟩⟩ ?_
        exact s_Judge_lookAt_L65 hr1 ih  hJ
      · have hJ := hJ.2 c
        refine zq_iload_n d_Judge_lookAt_57 rfl rfl ?_
        refine zq_if_ne (tgt := 65) d_Judge_lookAt_58 (by decide) (fun c => ?_) (fun c => ?_)
        · have hJ := hJ.1 c
          refine zr_less (L' := [some (.ref 2), some (.ref r1), some (.int a2), some (.int a3), some (.int x4), none, none]) ⟨rfl, ⟨rfl, ⟨rfl, ⟨rfl, ⟨rfl, trivial⟩⟩⟩⟩⟩ ?_
          exact s_Judge_lookAt_L65 hr1 ih  hJ
        · have hJ := hJ.2 c
          refine zq_iconst (v := 1) d_Judge_lookAt_61 zk_i1 ?_
          refine zq_goto (tgt := 66) d_Judge_lookAt_62 (by decide) ?_
          refine zr_less (L' := [some (.ref 2), some (.ref r1), some (.int a2), some (.int a3), some (.int x4), none, none]) ⟨rfl, ⟨rfl, ⟨rfl, ⟨rfl, ⟨rfl, trivial⟩⟩⟩⟩⟩ ?_
          exact s_Judge_lookAt_L66 hr1 ih  hJ
set_option maxHeartbeats 400000 in
theorem s_Judge_lookAt {g : zk_T} {r1 : Nat} {a2 : Int32} {a3 : Int32} (hr1 : zm_pl r1) {K : zm → Prop} {m : zm} (hJ : j_Judge_lookAt r1 a2 a3 m K) : zq_Mt (zk_g g) y_Judge_lookAt 2 0 0 [.ref 2, .ref r1, .int a2, .int a3] (zm_hp m) (zm_QV K) := by
  unfold j_Judge_lookAt at hJ
  refine zq_meth (ini := false) rfl (fun h => by cases h) (Nat.le_of_ble_eq_true rfl) ?_
  refine zr_L (F := ("RiichiTable$Judge", prog_2_method_2_code, 7, none, false, zq_rm 2 0 0)) (L' := [some (.ref 2), some (.ref r1), some (.int a2), some (.int a3), none, none, none]) rfl ?_
  refine zq_aload_n d_Judge_lookAt_0 rfl rfl ?_
  refine zq_iload_n d_Judge_lookAt_1 rfl rfl ?_
  refine zr_putI fl_Judge_35 d_Judge_lookAt_2 zs_Judge rfl rfl (fun m1 hm1 => ?_)
  have hJ := hJ m1 hm1
  refine zq_aload_n d_Judge_lookAt_5 rfl rfl ?_
  refine zq_iload_n d_Judge_lookAt_6 rfl rfl ?_
  obtain ⟨hb, hJ⟩ := hJ
  refine zr_putZ fl_Judge_39 d_Judge_lookAt_7 zs_Judge rfl rfl hb (fun m2 hm2 => ?_)
  have hJ := hJ m2 hm2
  refine zq_aload_n d_Judge_lookAt_10 rfl rfl ?_
  refine zq_aload_n d_Judge_lookAt_11 rfl rfl ?_
  refine zm_getI fg_Judge_43 d_Judge_lookAt_12 hr1.s rfl ?_
  refine zr_putI fl_Judge_48 d_Judge_lookAt_15 zs_Judge rfl rfl (fun m3 hm3 => ?_)
  have hJ := hJ m3 hm3
  refine zq_aload_n d_Judge_lookAt_18 rfl rfl ?_
  refine zq_aload_n d_Judge_lookAt_19 rfl rfl ?_
  refine zr_cvI (q := r1) (as := []) (st := [.ref 2]) d_Judge_lookAt_20 cc_Judge_49 cv_Player_isClosed hr1.s (s_Player_isClosed hr1 hJ) rfl ⟨Nat.le_of_ble_eq_true rfl, Nat.le_of_ble_eq_true rfl⟩ (Nat.le_of_ble_eq_true rfl) ⟨Nat.le_refl _, Nat.le_refl _⟩ rfl (fun r5 m4 hJ => ?_)
  obtain ⟨hb, hJ⟩ := hJ
  refine zr_putZ fl_Judge_53 d_Judge_lookAt_23 zs_Judge rfl rfl hb (fun m6 hm6 => ?_)
  have hJ := hJ m6 hm6
  refine zq_aload_n d_Judge_lookAt_26 rfl rfl ?_
  refine zm_getR fg_Judge_12 d_Judge_lookAt_27 zs_Judge rfl ?_
  refine zq_aload_n d_Judge_lookAt_30 rfl rfl ?_
  refine zr_cvV (q := 3) (as := [.ref r1]) (st := []) d_Judge_lookAt_31 cc_Judge_56 cv_Splitter_takeMelds zs_Splitter (s_Splitter_takeMelds hr1 hJ) rfl ⟨Nat.le_of_ble_eq_true rfl, Nat.le_of_ble_eq_true rfl⟩ (Nat.le_of_ble_eq_true rfl) ⟨Nat.le_refl _, Nat.le_refl _⟩ rfl (fun m7 hJ => ?_)
  refine zq_iconst (v := 0) d_Judge_lookAt_34 zk_i0 ?_
  refine zr_istore (L' := [some (.ref 2), some (.ref r1), some (.int a2), some (.int a3), some (.int 0), none, none]) d_Judge_lookAt_35 (Nat.le_of_ble_eq_true rfl) rfl ?_
  refine zr_less (L' := [some (.ref 2), some (.ref r1), some (.int a2), some (.int a3), some (.int 0), none, none]) ⟨rfl, ⟨rfl, ⟨rfl, ⟨rfl, ⟨rfl, trivial⟩⟩⟩⟩⟩ ?_
  obtain ⟨n37, hJ⟩ := hJ
  exact s_Judge_lookAt_L37 hr1  n37  hJ
set_option maxHeartbeats 400000 in
theorem s_Judge_isLastThere_L51 {g : zk_T} {K : Int32 → zm → Prop} {t0 : Int32} {m : zm} (hJ : j_Judge_isLastThere_L51   K t0 m) : zq_V (zk_g g) ("RiichiTable$Judge", prog_2_method_4_code, 1, (some .boolean), false, zq_rm 1 0 0) 0 0 51 [some (.ref 2)] [.int t0] (zm_hp m) (zm_QI K) := by
  unfold j_Judge_isLastThere_L51 at hJ
  exact zq_iret d_Judge_isLastThere_51 rfl hJ.1.nar (Nat.le_refl _) (Nat.le_refl _) ⟨_, _, rfl, rfl, hJ.2⟩
set_option maxHeartbeats 400000 in
theorem s_Judge_isLastThere {g : zk_T} {K : Int32 → zm → Prop} {m : zm} (hJ : j_Judge_isLastThere  m K) : zq_Mt (zk_g g) y_Judge_isLastThere 1 0 0 [.ref 2] (zm_hp m) (zm_QI K) := by
  unfold j_Judge_isLastThere at hJ
  refine zq_meth (ini := false) rfl (fun h => by cases h) (Nat.le_of_ble_eq_true rfl) ?_
  refine zr_L (F := ("RiichiTable$Judge", prog_2_method_4_code, 1, (some .boolean), false, zq_rm 1 0 0)) (L' := [some (.ref 2)]) rfl ?_
  refine zq_aload_n d_Judge_isLastThere_0 rfl rfl ?_
  refine zm_getI fg_Judge_113 d_Judge_isLastThere_1 zs_Judge rfl ?_
  refine zq_iconst (v := 4) d_Judge_isLastThere_4 zk_i4 ?_
  refine zq_icmp_ge (tgt := 35) d_Judge_isLastThere_5 (by decide) (fun c => ?_) (fun c => ?_)
  · have hJ := hJ.1 c
    refine zq_aload_n d_Judge_isLastThere_35 rfl rfl ?_
    refine zm_getI fg_Judge_110 d_Judge_isLastThere_36 zs_Judge rfl ?_
    refine zq_aload_n d_Judge_isLastThere_39 rfl rfl ?_
    refine zm_getI fg_Judge_35 d_Judge_isLastThere_40 zs_Judge rfl ?_
    refine zq_icmp_ne (tgt := 50) d_Judge_isLastThere_43 (by decide) (fun c => ?_) (fun c => ?_)
    · have hJ := hJ.1 c
      refine zq_iconst (v := 0) d_Judge_isLastThere_50 zk_i0 ?_
      refine zr_less (L' := [some (.ref 2)]) ⟨rfl, trivial⟩ ?_
      exact s_Judge_isLastThere_L51    hJ
    · have hJ := hJ.2 c
      refine zq_iconst (v := 1) d_Judge_isLastThere_46 zk_i1 ?_
      refine zq_goto (tgt := 51) d_Judge_isLastThere_47 (by decide) ?_
      refine zr_less (L' := [some (.ref 2)]) ⟨rfl, trivial⟩ ?_
      exact s_Judge_isLastThere_L51    hJ
  · have hJ := hJ.2 c
    refine zq_aload_n d_Judge_isLastThere_8 rfl rfl ?_
    refine zm_getR fg_Judge_22 d_Judge_isLastThere_9 zs_Judge rfl ?_
    refine zq_aload_n d_Judge_isLastThere_12 rfl rfl ?_
    refine zm_getI fg_Judge_113 d_Judge_isLastThere_13 zs_Judge rfl ?_
    obtain ⟨hb, hJ⟩ := hJ
    refine zm_ald d_Judge_isLastThere_16 (rfl : zm_sh[8]? = some (.inl (0, 4, .inl (fun _ => 0)))) hb ?_
    refine zq_aload_n d_Judge_isLastThere_17 rfl rfl ?_
    refine zm_getI fg_Judge_35 d_Judge_isLastThere_18 zs_Judge rfl ?_
    refine zr_csI (as := [.int (m.1 8 (Int32.toNatClampNeg (m.1 2 7))), .int (m.1 2 6)]) (st := []) d_Judge_isLastThere_21 cc_Judge_69 cs_Shape_countIn (s_Shape_countIn  hJ) rfl ⟨Nat.le_of_ble_eq_true rfl, Nat.le_of_ble_eq_true rfl⟩ (Nat.le_of_ble_eq_true rfl) ⟨Nat.le_refl _, Nat.le_refl _⟩ rfl (fun r2 m1 hJ => ?_)
    refine zq_if_le (tgt := 31) d_Judge_isLastThere_24 (by decide) (fun c => ?_) (fun c => ?_)
    · have hJ := hJ.1 c
      refine zq_iconst (v := 0) d_Judge_isLastThere_31 zk_i0 ?_
      refine zq_goto (tgt := 51) d_Judge_isLastThere_32 (by decide) ?_
      refine zr_less (L' := [some (.ref 2)]) ⟨rfl, trivial⟩ ?_
      exact s_Judge_isLastThere_L51    hJ
    · have hJ := hJ.2 c
      refine zq_iconst (v := 1) d_Judge_isLastThere_27 zk_i1 ?_
      refine zq_goto (tgt := 51) d_Judge_isLastThere_28 (by decide) ?_
      refine zr_less (L' := [some (.ref 2)]) ⟨rfl, trivial⟩ ?_
      exact s_Judge_isLastThere_L51    hJ
set_option maxHeartbeats 400000 in
theorem s_Judge_baseOf {g : zk_T} {a0 : Int32} {a1 : Int32} {K : Int32 → zm → Prop} {m : zm} (hJ : j_Judge_baseOf a0 a1 m K) : zq_Mt (zk_g g) y_Judge_baseOf 1 0 0 [.int a0, .int a1] (zm_hp m) (zm_QI K) := by
  unfold j_Judge_baseOf at hJ
  refine zq_meth (ini := false) rfl (fun h => by cases h) (Nat.le_of_ble_eq_true rfl) ?_
  refine zr_L (F := ("RiichiTable$Judge", prog_2_method_8_code, 2, (some .int), false, zq_rm 1 0 0)) (L' := [some (.int a0), some (.int a1)]) rfl ?_
  refine zq_iload_n d_Judge_baseOf_0 rfl rfl ?_
  refine zq_bipush (v := 13) d_Judge_baseOf_1 zk_b13 ?_
  refine zq_icmp_lt (tgt := 10) d_Judge_baseOf_3 (by decide) (fun c => ?_) (fun c => ?_)
  · have hJ := hJ.1 c
    refine zq_iload_n d_Judge_baseOf_10 rfl rfl ?_
    refine zq_bipush (v := 11) d_Judge_baseOf_11 zk_b11 ?_
    refine zq_icmp_lt (tgt := 20) d_Judge_baseOf_13 (by decide) (fun c => ?_) (fun c => ?_)
    · have hJ := hJ.1 c
      refine zq_iload_n d_Judge_baseOf_20 rfl rfl ?_
      refine zq_bipush (v := 8) d_Judge_baseOf_21 zk_b8 ?_
      refine zq_icmp_lt (tgt := 30) d_Judge_baseOf_23 (by decide) (fun c => ?_) (fun c => ?_)
      · have hJ := hJ.1 c
        refine zq_iload_n d_Judge_baseOf_30 rfl rfl ?_
        refine zq_bipush (v := 6) d_Judge_baseOf_31 zk_b6 ?_
        refine zq_icmp_lt (tgt := 40) d_Judge_baseOf_33 (by decide) (fun c => ?_) (fun c => ?_)
        · have hJ := hJ.1 c
          refine zq_sipush (v := 2000) d_Judge_baseOf_40 zk_s2000 ?_
          refine zq_iload_n d_Judge_baseOf_43 rfl rfl ?_
          refine zq_iconst (v := 2) d_Judge_baseOf_44 zk_i2 ?_
          refine zq_iload_n d_Judge_baseOf_45 rfl rfl ?_
          refine zq_iadd d_Judge_baseOf_46 ?_
          refine zq_ishl d_Judge_baseOf_47 ?_
          refine zq_mmin d_Judge_baseOf_48 (zq_in (zq_c2 (List.mem_of_getElem? (i := 225) rfl)) rfl) (zq_in (zq_c2 (List.mem_of_getElem? (i := 226) rfl)) rfl) (zq_in (zq_c1 (List.mem_of_getElem? (i := 9) rfl)) rfl) (zq_in (zq_c2 (List.mem_of_getElem? (i := 227) rfl)) rfl) (Nat.le_of_ble_eq_true rfl) (Nat.le_of_ble_eq_true rfl) (Nat.le_refl _) (Nat.le_refl _) ?_
          exact zq_iret d_Judge_baseOf_51 rfl rfl (Nat.le_refl _) (Nat.le_refl _) ⟨_, _, rfl, rfl, hJ⟩
        · have hJ := hJ.2 c
          refine zq_sipush (v := 3000) d_Judge_baseOf_36 zk_s3000 ?_
          exact zq_iret d_Judge_baseOf_39 rfl rfl (Nat.le_refl _) (Nat.le_refl _) ⟨_, _, rfl, rfl, hJ⟩
      · have hJ := hJ.2 c
        refine zq_sipush (v := 4000) d_Judge_baseOf_26 zk_s4000 ?_
        exact zq_iret d_Judge_baseOf_29 rfl rfl (Nat.le_refl _) (Nat.le_refl _) ⟨_, _, rfl, rfl, hJ⟩
    · have hJ := hJ.2 c
      refine zq_sipush (v := 6000) d_Judge_baseOf_16 zk_s6000 ?_
      exact zq_iret d_Judge_baseOf_19 rfl rfl (Nat.le_refl _) (Nat.le_refl _) ⟨_, _, rfl, rfl, hJ⟩
  · have hJ := hJ.2 c
    refine zq_sipush (v := 8000) d_Judge_baseOf_6 zk_s8000 ?_
    exact zq_iret d_Judge_baseOf_9 rfl rfl (Nat.le_refl _) (Nat.le_refl _) ⟨_, _, rfl, rfl, hJ⟩
set_option maxHeartbeats 400000 in
theorem s_Judge_countHan_L51 {g : zk_T} {a1 : Int64} {R8 : Int32 → Int32 → zm → Prop} {K : Int32 → zm → Prop} (hR8 : ∀ {x3 : Int32} {x4 : Int32} {m : zm}, R8 x3 x4 m → zq_V (zk_g g) ("RiichiTable$Judge", prog_2_method_7_code, 5, (some .int), false, zq_rm 0 0 0) 0 0 8 [some (.ref 2), some (.long a1), none, some (.int x3), some (.int x4)] [] (zm_hp m) (zm_QI K)) {x3 : Int32} {x4 : Int32} {m : zm} (hJ : j_Judge_countHan_L51 a1 R8 K x3 x4 m) : zq_V (zk_g g) ("RiichiTable$Judge", prog_2_method_7_code, 5, (some .int), false, zq_rm 0 0 0) 0 0 51 [some (.ref 2), some (.long a1), none, some (.int x3), some (.int x4)] [] (zm_hp m) (zm_QI K) := by
  unfold j_Judge_countHan_L51 at hJ
  refine zr_iinc (d' := 1) d_Judge_countHan_51 zk_i1 rfl (Nat.le_of_ble_eq_true rfl) (fun y3 hy3 => ?_)
  have hJ := hJ y3 hy3
  refine zr_L (L' := [some (.ref 2), some (.long a1), none, some (.int x3), some (.int y3)]) rfl ?_
  refine zq_goto (tgt := 8) d_Judge_countHan_54 (by decide) ?_
  refine zr_less (L' := [some (.ref 2), some (.long a1), none, some (.int x3), some (.int y3)]) ⟨rfl, ⟨rfl, ⟨rfl, ⟨rfl, trivial⟩⟩⟩⟩ ?_
  exact hR8  hJ
set_option maxHeartbeats 400000 in
theorem s_Judge_countHan_L49 {g : zk_T} {a1 : Int64} {R8 : Int32 → Int32 → zm → Prop} {K : Int32 → zm → Prop} (hR8 : ∀ {x3 : Int32} {x4 : Int32} {m : zm}, R8 x3 x4 m → zq_V (zk_g g) ("RiichiTable$Judge", prog_2_method_7_code, 5, (some .int), false, zq_rm 0 0 0) 0 0 8 [some (.ref 2), some (.long a1), none, some (.int x3), some (.int x4)] [] (zm_hp m) (zm_QI K)) {x4 : Int32} {t0 : Int32} {t1 : Int32} {m : zm} (hJ : j_Judge_countHan_L49 a1 R8 K x4 t0 t1 m) : zq_V (zk_g g) ("RiichiTable$Judge", prog_2_method_7_code, 5, (some .int), false, zq_rm 0 0 0) 0 0 49 [some (.ref 2), some (.long a1), none, none, some (.int x4)] [.int t0, .int t1] (zm_hp m) (zm_QI K) := by
  unfold j_Judge_countHan_L49 at hJ
  refine zq_iadd d_Judge_countHan_49 ?_
  refine zr_topi (fun y2 hy2 => ?_)
  have hJ := hJ y2 hy2
  refine zr_istore_n (L' := [some (.ref 2), some (.long a1), none, some (.int y2), some (.int x4)]) d_Judge_countHan_50 rfl (Nat.le_of_ble_eq_true rfl) rfl ?_
  refine zr_less (L' := [some (.ref 2), some (.long a1), none, some (.int y2), some (.int x4)]) ⟨rfl, ⟨rfl, ⟨rfl, ⟨rfl, trivial⟩⟩⟩⟩ ?_
  exact s_Judge_countHan_L51  hR8  hJ
set_option maxHeartbeats 400000 in
theorem s_Judge_countHan_L8 {g : zk_T} {a1 : Int64} {K : Int32 → zm → Prop} : ∀ (n : Nat) {x3 : Int32} {x4 : Int32} {m : zm}, j_Judge_countHan_L8 a1  K n x3 x4 m → zq_V (zk_g g) ("RiichiTable$Judge", prog_2_method_7_code, 5, (some .int), false, zq_rm 0 0 0) 0 0 8 [some (.ref 2), some (.long a1), none, some (.int x3), some (.int x4)] [] (zm_hp m) (zm_QI K) := by
  intro n
  induction n with
  | zero =>
    intro x3 x4 m hJ
    exact False.elim hJ
  | succ n ih =>
    intro x3 x4 m hJ
    rw [j_Judge_countHan_L8] at hJ
    refine zq_iload d_Judge_countHan_8 rfl ?_
    refine zq_bipush (v := 30) d_Judge_countHan_10 zk_b30 ?_
    refine zq_icmp_ge (tgt := 57) d_Judge_countHan_12 (by decide) (fun c => ?_) (fun c => ?_)
    · have hJ := hJ.1 c
      refine zq_iload_n d_Judge_countHan_57 rfl rfl ?_
      exact zq_iret d_Judge_countHan_58 rfl rfl (Nat.le_refl _) (Nat.le_refl _) ⟨_, _, rfl, rfl, hJ⟩
    · have hJ := hJ.2 c
      refine zq_lload_n d_Judge_countHan_15 rfl rfl ?_
      refine zq_iload d_Judge_countHan_16 rfl ?_
      refine zq_lshr d_Judge_countHan_18 ?_
      refine zq_lconst (v := 1) d_Judge_countHan_19 zk_l1 ?_
      refine zq_land d_Judge_countHan_20 ?_
      refine zq_lconst (v := 0) d_Judge_countHan_21 zk_l0 ?_
      refine zq_lcmp d_Judge_countHan_22 ?_
      refine zq_if_eq (tgt := 51) d_Judge_countHan_23 (by decide) (fun c => ?_) (fun c => ?_)
      · have hJ := hJ.1 c
        refine zr_less (L' := [some (.ref 2), some (.long a1), none, some (.int x3), some (.int x4)]) ⟨rfl, ⟨rfl, ⟨rfl, ⟨rfl, trivial⟩⟩⟩⟩ ?_
        exact s_Judge_countHan_L51  ih  hJ
      · have hJ := hJ.2 c
        refine zq_iload_n d_Judge_countHan_26 rfl rfl ?_
        refine zq_aload_n d_Judge_countHan_27 rfl rfl ?_
        refine zm_getI fg_Judge_53 d_Judge_countHan_28 zs_Judge rfl ?_
        refine zq_if_eq (tgt := 43) d_Judge_countHan_31 (by decide) (fun c => ?_) (fun c => ?_)
        · have hJ := hJ.1 c
          refine zq_getstatic (i := 1) d_Judge_countHan_43 rfl (zq_in (zq_c2 (List.mem_of_getElem? (i := 220) rfl)) rfl) ?_
          refine zq_iload d_Judge_countHan_46 rfl ?_
          obtain ⟨hb, hJ⟩ := hJ
          refine zq_sload (i := 2) (x := (30, zk_OPEN)) d_Judge_countHan_48 rfl hb ?_
          refine zr_less (L' := [some (.ref 2), some (.long a1), none, none, some (.int x4)]) ⟨rfl, ⟨rfl, ⟨rfl, trivial⟩⟩⟩ ?_
          exact s_Judge_countHan_L49  ih  hJ
        · have hJ := hJ.2 c
          refine zq_getstatic (i := 0) d_Judge_countHan_34 rfl (zq_in (zq_c2 (List.mem_of_getElem? (i := 218) rfl)) rfl) ?_
          refine zq_iload d_Judge_countHan_37 rfl ?_
          obtain ⟨hb, hJ⟩ := hJ
          refine zq_sload (i := 1) (x := (30, zk_CLOSED)) d_Judge_countHan_39 rfl hb ?_
          refine zq_goto (tgt := 49) d_Judge_countHan_40 (by decide) ?_
          refine zr_less (L' := [some (.ref 2), some (.long a1), none, none, some (.int x4)]) ⟨rfl, ⟨rfl, ⟨rfl, trivial⟩⟩⟩ ?_
          exact s_Judge_countHan_L49  ih  hJ
set_option maxHeartbeats 400000 in
theorem s_Judge_countHan {g : zk_T} {a1 : Int64} {K : Int32 → zm → Prop} {m : zm} (hJ : j_Judge_countHan a1 m K) : zq_Mt (zk_g g) y_Judge_countHan 0 0 0 [.ref 2, .long a1] (zm_hp m) (zm_QI K) := by
  unfold j_Judge_countHan at hJ
  refine zq_meth (ini := false) rfl (fun h => by cases h) (Nat.le_of_ble_eq_true rfl) ?_
  refine zr_L (F := ("RiichiTable$Judge", prog_2_method_7_code, 5, (some .int), false, zq_rm 0 0 0)) (L' := [some (.ref 2), some (.long a1), none, none, none]) rfl ?_
  refine zq_aload_n d_Judge_countHan_0 rfl rfl ?_
  refine zm_getI fg_Judge_170 d_Judge_countHan_1 zs_Judge rfl ?_
  refine zr_topi (fun y1 hy1 => ?_)
  have hJ := hJ y1 hy1
  refine zr_istore_n (L' := [some (.ref 2), some (.long a1), none, some (.int y1), none]) d_Judge_countHan_4 rfl (Nat.le_of_ble_eq_true rfl) rfl ?_
  refine zq_iconst (v := 0) d_Judge_countHan_5 zk_i0 ?_
  refine zr_istore (L' := [some (.ref 2), some (.long a1), none, some (.int y1), some (.int 0)]) d_Judge_countHan_6 (Nat.le_of_ble_eq_true rfl) rfl ?_
  refine zr_less (L' := [some (.ref 2), some (.long a1), none, some (.int y1), some (.int 0)]) ⟨rfl, ⟨rfl, ⟨rfl, ⟨rfl, trivial⟩⟩⟩⟩ ?_
  obtain ⟨n8, hJ⟩ := hJ
  exact s_Judge_countHan_L8   n8  hJ
set_option maxHeartbeats 400000 in
theorem s_Worth_copy {g : zk_T} {q : Nat} {r1 : Nat} (hq : zm_wo q) (hr1 : zm_wo r1) {K : zm → Prop} {m : zm} (hJ : j_Worth_copy q r1 m K) : zq_Mt (zk_g g) y_Worth_copy 0 0 0 [.ref q, .ref r1] (zm_hp m) (zm_QV K) := by
  unfold j_Worth_copy at hJ
  refine zq_meth (ini := false) rfl (fun h => by cases h) (Nat.le_of_ble_eq_true rfl) ?_
  refine zr_L (F := ("RiichiTable$Worth", prog_7_method_2_code, 2, none, false, zq_rm 0 0 0)) (L' := [some (.ref q), some (.ref r1)]) rfl ?_
  refine zq_aload_n d_Worth_copy_0 rfl rfl ?_
  refine zq_aload_n d_Worth_copy_1 rfl rfl ?_
  refine zm_getI fg_Worth_7 d_Worth_copy_2 hr1.s rfl ?_
  refine zr_putI fl_Worth_7 d_Worth_copy_5 hq.s rfl rfl (fun m1 hm1 => ?_)
  have hJ := hJ m1 hm1
  refine zq_aload_n d_Worth_copy_8 rfl rfl ?_
  refine zq_aload_n d_Worth_copy_9 rfl rfl ?_
  refine zm_getI fg_Worth_13 d_Worth_copy_10 hr1.s rfl ?_
  refine zr_putI fl_Worth_13 d_Worth_copy_13 hq.s rfl rfl (fun m2 hm2 => ?_)
  have hJ := hJ m2 hm2
  refine zq_aload_n d_Worth_copy_16 rfl rfl ?_
  refine zq_aload_n d_Worth_copy_17 rfl rfl ?_
  refine zm_getI fg_Worth_16 d_Worth_copy_18 hr1.s rfl ?_
  refine zr_putI fl_Worth_16 d_Worth_copy_21 hq.s rfl rfl (fun m3 hm3 => ?_)
  have hJ := hJ m3 hm3
  refine zq_aload_n d_Worth_copy_24 rfl rfl ?_
  refine zq_aload_n d_Worth_copy_25 rfl rfl ?_
  refine zm_getI fg_Worth_19 d_Worth_copy_26 hr1.s rfl ?_
  refine zr_putI fl_Worth_19 d_Worth_copy_29 hq.s rfl rfl (fun m4 hm4 => ?_)
  have hJ := hJ m4 hm4
  refine zq_aload_n d_Worth_copy_32 rfl rfl ?_
  refine zq_aload_n d_Worth_copy_33 rfl rfl ?_
  refine zm_getL fg_Worth_22 d_Worth_copy_34 hr1.s rfl ?_
  refine zr_putL fl_Worth_22 d_Worth_copy_37 hq.s rfl rfl (fun m5 hm5 => ?_)
  have hJ := hJ m5 hm5
  exact zq_vret d_Worth_copy_40 rfl (Nat.le_refl _) (Nat.le_refl _) ⟨_, rfl, rfl, hJ⟩
set_option maxHeartbeats 400000 in
theorem s_Worth_isAbove_L27 {g : zk_T} {q : Nat} {r1 : Nat} (hq : zm_wo q) (hr1 : zm_wo r1) {K : Int32 → zm → Prop} {t0 : Int32} {m : zm} (hJ : j_Worth_isAbove_L27 q r1  K t0 m) : zq_V (zk_g g) ("RiichiTable$Worth", prog_7_method_3_code, 2, (some .boolean), false, zq_rm 0 0 0) 0 0 27 [some (.ref q), some (.ref r1)] [.int t0] (zm_hp m) (zm_QI K) := by
  unfold j_Worth_isAbove_L27 at hJ
  exact zq_iret d_Worth_isAbove_27 rfl hJ.1.nar (Nat.le_refl _) (Nat.le_refl _) ⟨_, _, rfl, rfl, hJ.2⟩
set_option maxHeartbeats 400000 in
theorem s_Worth_isAbove_L55 {g : zk_T} {q : Nat} {r1 : Nat} (hq : zm_wo q) (hr1 : zm_wo r1) {K : Int32 → zm → Prop} {t0 : Int32} {m : zm} (hJ : j_Worth_isAbove_L55 q r1  K t0 m) : zq_V (zk_g g) ("RiichiTable$Worth", prog_7_method_3_code, 2, (some .boolean), false, zq_rm 0 0 0) 0 0 55 [some (.ref q), some (.ref r1)] [.int t0] (zm_hp m) (zm_QI K) := by
  unfold j_Worth_isAbove_L55 at hJ
  exact zq_iret d_Worth_isAbove_55 rfl hJ.1.nar (Nat.le_refl _) (Nat.le_refl _) ⟨_, _, rfl, rfl, hJ.2⟩
set_option maxHeartbeats 400000 in
theorem s_Worth_isAbove_L83 {g : zk_T} {q : Nat} {r1 : Nat} (hq : zm_wo q) (hr1 : zm_wo r1) {K : Int32 → zm → Prop} {t0 : Int32} {m : zm} (hJ : j_Worth_isAbove_L83 q r1  K t0 m) : zq_V (zk_g g) ("RiichiTable$Worth", prog_7_method_3_code, 2, (some .boolean), false, zq_rm 0 0 0) 0 0 83 [some (.ref q), some (.ref r1)] [.int t0] (zm_hp m) (zm_QI K) := by
  unfold j_Worth_isAbove_L83 at hJ
  exact zq_iret d_Worth_isAbove_83 rfl hJ.1.nar (Nat.le_refl _) (Nat.le_refl _) ⟨_, _, rfl, rfl, hJ.2⟩
set_option maxHeartbeats 400000 in
theorem s_Worth_isAbove_L101 {g : zk_T} {q : Nat} {r1 : Nat} (hq : zm_wo q) (hr1 : zm_wo r1) {K : Int32 → zm → Prop} {t0 : Int32} {m : zm} (hJ : j_Worth_isAbove_L101 q r1  K t0 m) : zq_V (zk_g g) ("RiichiTable$Worth", prog_7_method_3_code, 2, (some .boolean), false, zq_rm 0 0 0) 0 0 101 [some (.ref q), some (.ref r1)] [.int t0] (zm_hp m) (zm_QI K) := by
  unfold j_Worth_isAbove_L101 at hJ
  exact zq_iret d_Worth_isAbove_101 rfl hJ.1.nar (Nat.le_refl _) (Nat.le_refl _) ⟨_, _, rfl, rfl, hJ.2⟩
set_option maxHeartbeats 400000 in
theorem s_Worth_isAbove {g : zk_T} {q : Nat} {r1 : Nat} (hq : zm_wo q) (hr1 : zm_wo r1) {K : Int32 → zm → Prop} {m : zm} (hJ : j_Worth_isAbove q r1 m K) : zq_Mt (zk_g g) y_Worth_isAbove 0 0 0 [.ref q, .ref r1] (zm_hp m) (zm_QI K) := by
  unfold j_Worth_isAbove at hJ
  refine zq_meth (ini := false) rfl (fun h => by cases h) (Nat.le_of_ble_eq_true rfl) ?_
  refine zr_L (F := ("RiichiTable$Worth", prog_7_method_3_code, 2, (some .boolean), false, zq_rm 0 0 0)) (L' := [some (.ref q), some (.ref r1)]) rfl ?_
  refine zq_aload_n d_Worth_isAbove_0 rfl rfl ?_
  refine zm_getI fg_Worth_16 d_Worth_isAbove_1 hq.s rfl ?_
  refine zq_aload_n d_Worth_isAbove_4 rfl rfl ?_
  refine zm_getI fg_Worth_16 d_Worth_isAbove_5 hr1.s rfl ?_
  refine zq_icmp_eq (tgt := 28) d_Worth_isAbove_8 (by decide) (fun c => ?_) (fun c => ?_)
  · have hJ := hJ.1 c
    refine zq_aload_n d_Worth_isAbove_28 rfl rfl ?_
    refine zm_getI fg_Worth_7 d_Worth_isAbove_29 hq.s rfl ?_
    refine zq_aload_n d_Worth_isAbove_32 rfl rfl ?_
    refine zm_getI fg_Worth_7 d_Worth_isAbove_33 hr1.s rfl ?_
    refine zq_icmp_eq (tgt := 56) d_Worth_isAbove_36 (by decide) (fun c => ?_) (fun c => ?_)
    · have hJ := hJ.1 c
      refine zq_aload_n d_Worth_isAbove_56 rfl rfl ?_
      refine zm_getI fg_Worth_13 d_Worth_isAbove_57 hq.s rfl ?_
      refine zq_aload_n d_Worth_isAbove_60 rfl rfl ?_
      refine zm_getI fg_Worth_13 d_Worth_isAbove_61 hr1.s rfl ?_
      refine zq_icmp_eq (tgt := 84) d_Worth_isAbove_64 (by decide) (fun c => ?_) (fun c => ?_)
      · have hJ := hJ.1 c
        refine zq_aload_n d_Worth_isAbove_84 rfl rfl ?_
        refine zm_getL fg_Worth_22 d_Worth_isAbove_85 hq.s rfl ?_
        refine zq_aload_n d_Worth_isAbove_88 rfl rfl ?_
        refine zm_getL fg_Worth_22 d_Worth_isAbove_89 hr1.s rfl ?_
        refine zq_lcmp d_Worth_isAbove_92 ?_
        refine zq_if_le (tgt := 100) d_Worth_isAbove_93 (by decide) (fun c => ?_) (fun c => ?_)
        · have hJ := hJ.1 c
          refine zq_iconst (v := 0) d_Worth_isAbove_100 zk_i0 ?_
          refine zr_less (L' := [some (.ref q), some (.ref r1)]) ⟨rfl, ⟨rfl, trivial⟩⟩ ?_
          exact s_Worth_isAbove_L101 hq hr1   hJ
        · have hJ := hJ.2 c
          refine zq_iconst (v := 1) d_Worth_isAbove_96 zk_i1 ?_
          refine zq_goto (tgt := 101) d_Worth_isAbove_97 (by decide) ?_
          refine zr_less (L' := [some (.ref q), some (.ref r1)]) ⟨rfl, ⟨rfl, trivial⟩⟩ ?_
          exact s_Worth_isAbove_L101 hq hr1   hJ
      · have hJ := hJ.2 c
        refine zq_aload_n d_Worth_isAbove_67 rfl rfl ?_
        refine zm_getI fg_Worth_13 d_Worth_isAbove_68 hq.s rfl ?_
        refine zq_aload_n d_Worth_isAbove_71 rfl rfl ?_
        refine zm_getI fg_Worth_13 d_Worth_isAbove_72 hr1.s rfl ?_
        refine zq_icmp_le (tgt := 82) d_Worth_isAbove_75 (by decide) (fun c => ?_) (fun c => ?_)
        · have hJ := hJ.1 c
          refine zq_iconst (v := 0) d_Worth_isAbove_82 zk_i0 ?_
          refine zr_less (L' := [some (.ref q), some (.ref r1)]) ⟨rfl, ⟨rfl, trivial⟩⟩ ?_
          exact s_Worth_isAbove_L83 hq hr1   hJ
        · have hJ := hJ.2 c
          refine zq_iconst (v := 1) d_Worth_isAbove_78 zk_i1 ?_
          refine zq_goto (tgt := 83) d_Worth_isAbove_79 (by decide) ?_
          refine zr_less (L' := [some (.ref q), some (.ref r1)]) ⟨rfl, ⟨rfl, trivial⟩⟩ ?_
          exact s_Worth_isAbove_L83 hq hr1   hJ
    · have hJ := hJ.2 c
      refine zq_aload_n d_Worth_isAbove_39 rfl rfl ?_
      refine zm_getI fg_Worth_7 d_Worth_isAbove_40 hq.s rfl ?_
      refine zq_aload_n d_Worth_isAbove_43 rfl rfl ?_
      refine zm_getI fg_Worth_7 d_Worth_isAbove_44 hr1.s rfl ?_
      refine zq_icmp_le (tgt := 54) d_Worth_isAbove_47 (by decide) (fun c => ?_) (fun c => ?_)
      · have hJ := hJ.1 c
        refine zq_iconst (v := 0) d_Worth_isAbove_54 zk_i0 ?_
        refine zr_less (L' := [some (.ref q), some (.ref r1)]) ⟨rfl, ⟨rfl, trivial⟩⟩ ?_
        exact s_Worth_isAbove_L55 hq hr1   hJ
      · have hJ := hJ.2 c
        refine zq_iconst (v := 1) d_Worth_isAbove_50 zk_i1 ?_
        refine zq_goto (tgt := 55) d_Worth_isAbove_51 (by decide) ?_
        refine zr_less (L' := [some (.ref q), some (.ref r1)]) ⟨rfl, ⟨rfl, trivial⟩⟩ ?_
        exact s_Worth_isAbove_L55 hq hr1   hJ
  · have hJ := hJ.2 c
    refine zq_aload_n d_Worth_isAbove_11 rfl rfl ?_
    refine zm_getI fg_Worth_16 d_Worth_isAbove_12 hq.s rfl ?_
    refine zq_aload_n d_Worth_isAbove_15 rfl rfl ?_
    refine zm_getI fg_Worth_16 d_Worth_isAbove_16 hr1.s rfl ?_
    refine zq_icmp_le (tgt := 26) d_Worth_isAbove_19 (by decide) (fun c => ?_) (fun c => ?_)
    · have hJ := hJ.1 c
      refine zq_iconst (v := 0) d_Worth_isAbove_26 zk_i0 ?_
      refine zr_less (L' := [some (.ref q), some (.ref r1)]) ⟨rfl, ⟨rfl, trivial⟩⟩ ?_
      exact s_Worth_isAbove_L27 hq hr1   hJ
    · have hJ := hJ.2 c
      refine zq_iconst (v := 1) d_Worth_isAbove_22 zk_i1 ?_
      refine zq_goto (tgt := 27) d_Worth_isAbove_23 (by decide) ?_
      refine zr_less (L' := [some (.ref q), some (.ref r1)]) ⟨rfl, ⟨rfl, trivial⟩⟩ ?_
      exact s_Worth_isAbove_L27 hq hr1   hJ
set_option maxHeartbeats 400000 in
theorem s_Judge_rate_L122 {g : zk_T} {a1 : Int64} {a3 : Int32} {K : zm → Prop} {m : zm} (hJ : j_Judge_rate_L122 a1 a3  K  m) : zq_V (zk_g g) ("RiichiTable$Judge", prog_2_method_6_code, 6, none, false, zq_rm 2 0 0) 0 0 122 [some (.ref 2), some (.long a1), none, some (.int a3), none, none] [] (zm_hp m) (zm_QV K) := by
  unfold j_Judge_rate_L122 at hJ
  exact zq_vret d_Judge_rate_122 rfl (Nat.le_refl _) (Nat.le_refl _) ⟨_, rfl, rfl, hJ⟩
set_option maxHeartbeats 400000 in
theorem s_Judge_rate_L111 {g : zk_T} {a1 : Int64} {a3 : Int32} {K : zm → Prop} {m : zm} (hJ : j_Judge_rate_L111 a1 a3  K  m) : zq_V (zk_g g) ("RiichiTable$Judge", prog_2_method_6_code, 6, none, false, zq_rm 2 0 0) 0 0 111 [some (.ref 2), some (.long a1), none, some (.int a3), none, none] [] (zm_hp m) (zm_QV K) := by
  unfold j_Judge_rate_L111 at hJ
  refine zq_aload_n d_Judge_rate_111 rfl rfl ?_
  refine zm_getR fg_Judge_32 d_Judge_rate_112 zs_Judge rfl ?_
  refine zq_aload_n d_Judge_rate_115 rfl rfl ?_
  refine zm_getR fg_Judge_28 d_Judge_rate_116 zs_Judge rfl ?_
  refine zr_cvV (q := 10) (as := [.ref 9]) (st := []) d_Judge_rate_119 cc_Judge_166 cv_Worth_copy zw_10.s (s_Worth_copy zw_10 zw_9 hJ) rfl ⟨Nat.le_of_ble_eq_true rfl, Nat.le_of_ble_eq_true rfl⟩ (Nat.le_of_ble_eq_true rfl) ⟨Nat.le_refl _, Nat.le_refl _⟩ rfl (fun m12 hJ => ?_)
  refine zr_less (L' := [some (.ref 2), some (.long a1), none, some (.int a3), none, none]) ⟨rfl, ⟨rfl, ⟨rfl, trivial⟩⟩⟩ ?_
  exact s_Judge_rate_L122    hJ
set_option maxHeartbeats 400000 in
theorem s_Judge_rate_L50 {g : zk_T} {a1 : Int64} {a3 : Int32} {K : zm → Prop} {t0 : Int32} {m : zm} (hJ : j_Judge_rate_L50 a1 a3  K t0 m) : zq_V (zk_g g) ("RiichiTable$Judge", prog_2_method_6_code, 6, none, false, zq_rm 2 0 0) 0 0 50 [some (.ref 2), some (.long a1), none, some (.int a3), none, none] [.int t0, .ref 9] (zm_hp m) (zm_QV K) := by
  unfold j_Judge_rate_L50 at hJ
  refine zr_putI fl_Judge_150 d_Judge_rate_50 zw_9.s rfl rfl (fun m5 hm5 => ?_)
  have hJ := hJ m5 hm5
  refine zq_aload_n d_Judge_rate_53 rfl rfl ?_
  refine zm_getR fg_Judge_28 d_Judge_rate_54 zs_Judge rfl ?_
  refine zq_iload_n d_Judge_rate_57 rfl rfl ?_
  refine zr_putI fl_Judge_153 d_Judge_rate_58 zw_9.s rfl rfl (fun m6 hm6 => ?_)
  have hJ := hJ m6 hm6
  refine zq_aload_n d_Judge_rate_61 rfl rfl ?_
  refine zm_getR fg_Judge_28 d_Judge_rate_62 zs_Judge rfl ?_
  refine zq_aload_n d_Judge_rate_65 rfl rfl ?_
  refine zm_getR fg_Judge_28 d_Judge_rate_66 zs_Judge rfl ?_
  refine zm_getI fg_Judge_150 d_Judge_rate_69 zw_9.s rfl ?_
  refine zq_iload_n d_Judge_rate_72 rfl rfl ?_
  refine zr_csI (as := [.int (m6.1 9 0), .int a3]) (st := [.ref 9]) d_Judge_rate_73 cc_Judge_156 cs_Judge_baseOf (s_Judge_baseOf  hJ) rfl ⟨Nat.le_of_ble_eq_true rfl, Nat.le_of_ble_eq_true rfl⟩ (Nat.le_of_ble_eq_true rfl) ⟨Nat.le_refl _, Nat.le_refl _⟩ rfl (fun r8 m7 hJ => ?_)
  refine zr_putI fl_Judge_159 d_Judge_rate_76 zw_9.s rfl rfl (fun m9 hm9 => ?_)
  have hJ := hJ m9 hm9
  refine zq_lload_n d_Judge_rate_79 rfl rfl ?_
  refine zq_lconst (v := 0) d_Judge_rate_80 zk_l0 ?_
  refine zq_lcmp d_Judge_rate_81 ?_
  refine zq_if_eq (tgt := 122) d_Judge_rate_82 (by decide) (fun c => ?_) (fun c => ?_)
  · have hJ := hJ.1 c
    refine zr_less (L' := [some (.ref 2), some (.long a1), none, some (.int a3), none, none]) ⟨rfl, ⟨rfl, ⟨rfl, trivial⟩⟩⟩ ?_
    exact s_Judge_rate_L122    hJ
  · have hJ := hJ.2 c
    refine zq_aload_n d_Judge_rate_85 rfl rfl ?_
    refine zm_getR fg_Judge_32 d_Judge_rate_86 zs_Judge rfl ?_
    refine zm_getL fg_Judge_75 d_Judge_rate_89 zw_10.s rfl ?_
    refine zq_lconst (v := 0) d_Judge_rate_92 zk_l0 ?_
    refine zq_lcmp d_Judge_rate_93 ?_
    refine zq_if_eq (tgt := 111) d_Judge_rate_94 (by decide) (fun c => ?_) (fun c => ?_)
    · have hJ := hJ.1 c
      refine zr_less (L' := [some (.ref 2), some (.long a1), none, some (.int a3), none, none]) ⟨rfl, ⟨rfl, ⟨rfl, trivial⟩⟩⟩ ?_
      exact s_Judge_rate_L111    hJ
    · have hJ := hJ.2 c
      refine zq_aload_n d_Judge_rate_97 rfl rfl ?_
      refine zm_getR fg_Judge_28 d_Judge_rate_98 zs_Judge rfl ?_
      refine zq_aload_n d_Judge_rate_101 rfl rfl ?_
      refine zm_getR fg_Judge_32 d_Judge_rate_102 zs_Judge rfl ?_
      refine zr_cvI (q := 9) (as := [.ref 10]) (st := []) d_Judge_rate_105 cc_Judge_162 cv_Worth_isAbove zw_9.s (s_Worth_isAbove zw_9 zw_10 hJ) rfl ⟨Nat.le_of_ble_eq_true rfl, Nat.le_of_ble_eq_true rfl⟩ (Nat.le_of_ble_eq_true rfl) ⟨Nat.le_refl _, Nat.le_refl _⟩ rfl (fun r11 m10 hJ => ?_)
      refine zq_if_eq (tgt := 122) d_Judge_rate_108 (by decide) (fun c => ?_) (fun c => ?_)
      · have hJ := hJ.1 c
        refine zr_less (L' := [some (.ref 2), some (.long a1), none, some (.int a3), none, none]) ⟨rfl, ⟨rfl, ⟨rfl, trivial⟩⟩⟩ ?_
        exact s_Judge_rate_L122    hJ
      · have hJ := hJ.2 c
        refine zr_less (L' := [some (.ref 2), some (.long a1), none, some (.int a3), none, none]) ⟨rfl, ⟨rfl, ⟨rfl, trivial⟩⟩⟩ ?_
        exact s_Judge_rate_L111    hJ
set_option maxHeartbeats 400000 in
theorem s_Judge_rate_L26 {g : zk_T} {a1 : Int64} {a3 : Int32} {K : zm → Prop} {x4 : Int64} {t0 : Int64} {m : zm} (hJ : j_Judge_rate_L26 a1 a3  K x4 t0 m) : zq_V (zk_g g) ("RiichiTable$Judge", prog_2_method_6_code, 6, none, false, zq_rm 2 0 0) 0 0 26 [some (.ref 2), some (.long a1), none, some (.int a3), some (.long x4), none] [.long t0, .ref 9] (zm_hp m) (zm_QV K) := by
  unfold j_Judge_rate_L26 at hJ
  refine zr_putL fl_Judge_75 d_Judge_rate_26 zw_9.s rfl rfl (fun m2 hm2 => ?_)
  have hJ := hJ m2 hm2
  refine zq_aload_n d_Judge_rate_29 rfl rfl ?_
  refine zm_getR fg_Judge_28 d_Judge_rate_30 zs_Judge rfl ?_
  refine zq_lload d_Judge_rate_33 rfl ?_
  refine zq_lconst (v := 0) d_Judge_rate_35 zk_l0 ?_
  refine zq_lcmp d_Judge_rate_36 ?_
  refine zq_if_eq (tgt := 45) d_Judge_rate_37 (by decide) (fun c => ?_) (fun c => ?_)
  · have hJ := hJ.1 c
    refine zq_aload_n d_Judge_rate_45 rfl rfl ?_
    refine zq_lload_n d_Judge_rate_46 rfl rfl ?_
    refine zr_cvI (q := 2) (as := [.long a1]) (st := [.ref 9]) d_Judge_rate_47 cc_Judge_146 cv_Judge_countHan zs_Judge (s_Judge_countHan  hJ) rfl ⟨Nat.le_of_ble_eq_true rfl, Nat.le_of_ble_eq_true rfl⟩ (Nat.le_of_ble_eq_true rfl) ⟨Nat.le_refl _, Nat.le_refl _⟩ rfl (fun r4 m3 hJ => ?_)
    refine zr_less (L' := [some (.ref 2), some (.long a1), none, some (.int a3), none, none]) ⟨rfl, ⟨rfl, ⟨rfl, trivial⟩⟩⟩ ?_
    exact s_Judge_rate_L50    hJ
  · have hJ := hJ.2 c
    refine zq_bipush (v := 13) d_Judge_rate_40 zk_b13 ?_
    refine zq_goto (tgt := 50) d_Judge_rate_42 (by decide) ?_
    refine zr_less (L' := [some (.ref 2), some (.long a1), none, some (.int a3), none, none]) ⟨rfl, ⟨rfl, ⟨rfl, trivial⟩⟩⟩ ?_
    exact s_Judge_rate_L50    hJ
set_option maxHeartbeats 400000 in
theorem s_Judge_rate {g : zk_T} {a1 : Int64} {a3 : Int32} {K : zm → Prop} {m : zm} (hJ : j_Judge_rate a1 a3 m K) : zq_Mt (zk_g g) y_Judge_rate 2 0 0 [.ref 2, .long a1, .int a3] (zm_hp m) (zm_QV K) := by
  unfold j_Judge_rate at hJ
  refine zq_meth (ini := false) rfl (fun h => by cases h) (Nat.le_of_ble_eq_true rfl) ?_
  refine zr_L (F := ("RiichiTable$Judge", prog_2_method_6_code, 6, none, false, zq_rm 2 0 0)) (L' := [some (.ref 2), some (.long a1), none, some (.int a3), none, none]) rfl ?_
  refine zq_lload_n d_Judge_rate_0 rfl rfl ?_
  refine zq_bipush (v := 30) d_Judge_rate_1 zk_b30 ?_
  refine zq_lshr d_Judge_rate_3 ?_
  refine zq_bipush (v := 30) d_Judge_rate_4 zk_b30 ?_
  refine zq_lshl d_Judge_rate_6 ?_
  refine zr_topl (fun y1 hy1 => ?_)
  have hJ := hJ y1 hy1
  refine zr_lstore (L' := [some (.ref 2), some (.long a1), none, some (.int a3), some (.long y1), none]) d_Judge_rate_7 (Nat.le_of_ble_eq_true rfl) rfl ?_
  refine zq_aload_n d_Judge_rate_9 rfl rfl ?_
  refine zm_getR fg_Judge_28 d_Judge_rate_10 zs_Judge rfl ?_
  refine zq_lload d_Judge_rate_13 rfl ?_
  refine zq_lconst (v := 0) d_Judge_rate_15 zk_l0 ?_
  refine zq_lcmp d_Judge_rate_16 ?_
  refine zq_if_eq (tgt := 25) d_Judge_rate_17 (by decide) (fun c => ?_) (fun c => ?_)
  · have hJ := hJ.1 c
    refine zq_lload_n d_Judge_rate_25 rfl rfl ?_
    refine zr_less (L' := [some (.ref 2), some (.long a1), none, some (.int a3), some (.long y1), none]) ⟨rfl, ⟨rfl, ⟨rfl, ⟨rfl, trivial⟩⟩⟩⟩ ?_
    exact s_Judge_rate_L26    hJ
  · have hJ := hJ.2 c
    refine zq_lload d_Judge_rate_20 rfl ?_
    refine zq_goto (tgt := 26) d_Judge_rate_22 (by decide) ?_
    refine zr_less (L' := [some (.ref 2), some (.long a1), none, some (.int a3), some (.long y1), none]) ⟨rfl, ⟨rfl, ⟨rfl, ⟨rfl, trivial⟩⟩⟩⟩ ?_
    exact s_Judge_rate_L26    hJ
set_option maxHeartbeats 400000 in
theorem s_Judge_fuOfLast_L97 {g : zk_T} {K : Int32 → zm → Prop} {t0 : Int32} {m : zm} (hJ : j_Judge_fuOfLast_L97   K t0 m) : zq_V (zk_g g) ("RiichiTable$Judge", prog_2_method_26_code, 3, (some .int), false, zq_rm 0 0 0) 0 0 97 [some (.ref 2), none, none] [.int t0] (zm_hp m) (zm_QI K) := by
  unfold j_Judge_fuOfLast_L97 at hJ
  exact zq_iret d_Judge_fuOfLast_97 rfl rfl (Nat.le_refl _) (Nat.le_refl _) ⟨_, _, rfl, rfl, hJ⟩
set_option maxHeartbeats 400000 in
theorem s_Judge_fuOfLast_L87 {g : zk_T} {K : Int32 → zm → Prop} {t0 : Int32} {m : zm} (hJ : j_Judge_fuOfLast_L87   K t0 m) : zq_V (zk_g g) ("RiichiTable$Judge", prog_2_method_26_code, 3, (some .int), false, zq_rm 0 0 0) 0 0 87 [some (.ref 2), none, none] [.int t0] (zm_hp m) (zm_QI K) := by
  unfold j_Judge_fuOfLast_L87 at hJ
  refine zr_istore_n (L' := [some (.ref 2), none, some (.int t0)]) d_Judge_fuOfLast_87 rfl (Nat.le_of_ble_eq_true rfl) rfl ?_
  refine zq_iload_n d_Judge_fuOfLast_88 rfl rfl ?_
  refine zq_if_eq (tgt := 96) d_Judge_fuOfLast_89 (by decide) (fun c => ?_) (fun c => ?_)
  · have hJ := hJ.1 c
    refine zq_iconst (v := 0) d_Judge_fuOfLast_96 zk_i0 ?_
    refine zr_less (L' := [some (.ref 2), none, none]) ⟨rfl, trivial⟩ ?_
    exact s_Judge_fuOfLast_L97    hJ
  · have hJ := hJ.2 c
    refine zq_iconst (v := 2) d_Judge_fuOfLast_92 zk_i2 ?_
    refine zq_goto (tgt := 97) d_Judge_fuOfLast_93 (by decide) ?_
    refine zr_less (L' := [some (.ref 2), none, none]) ⟨rfl, trivial⟩ ?_
    exact s_Judge_fuOfLast_L97    hJ
set_option maxHeartbeats 400000 in
theorem s_Judge_fuOfLast_L82 {g : zk_T} {K : Int32 → zm → Prop} {m : zm} (hJ : j_Judge_fuOfLast_L82   K  m) : zq_V (zk_g g) ("RiichiTable$Judge", prog_2_method_26_code, 3, (some .int), false, zq_rm 0 0 0) 0 0 82 [some (.ref 2), none, none] [] (zm_hp m) (zm_QI K) := by
  unfold j_Judge_fuOfLast_L82 at hJ
  refine zq_iconst (v := 1) d_Judge_fuOfLast_82 zk_i1 ?_
  refine zq_goto (tgt := 87) d_Judge_fuOfLast_83 (by decide) ?_
  refine zr_less (L' := [some (.ref 2), none, none]) ⟨rfl, trivial⟩ ?_
  exact s_Judge_fuOfLast_L87    hJ
set_option maxHeartbeats 400000 in
theorem s_Judge_fuOfLast_L86 {g : zk_T} {K : Int32 → zm → Prop} {m : zm} (hJ : j_Judge_fuOfLast_L86   K  m) : zq_V (zk_g g) ("RiichiTable$Judge", prog_2_method_26_code, 3, (some .int), false, zq_rm 0 0 0) 0 0 86 [some (.ref 2), none, none] [] (zm_hp m) (zm_QI K) := by
  unfold j_Judge_fuOfLast_L86 at hJ
  refine zq_iconst (v := 0) d_Judge_fuOfLast_86 zk_i0 ?_
  refine zr_less (L' := [some (.ref 2), none, none]) ⟨rfl, trivial⟩ ?_
  exact s_Judge_fuOfLast_L87    hJ
set_option maxHeartbeats 400000 in
theorem s_Judge_fuOfLast_L65 {g : zk_T} {K : Int32 → zm → Prop} {x1 : Int32} {m : zm} (hJ : j_Judge_fuOfLast_L65   K x1 m) : zq_V (zk_g g) ("RiichiTable$Judge", prog_2_method_26_code, 3, (some .int), false, zq_rm 0 0 0) 0 0 65 [some (.ref 2), some (.int x1), none] [] (zm_hp m) (zm_QI K) := by
  unfold j_Judge_fuOfLast_L65 at hJ
  refine zq_aload_n d_Judge_fuOfLast_65 rfl rfl ?_
  refine zm_getI fg_Judge_35 d_Judge_fuOfLast_66 zs_Judge rfl ?_
  refine zq_iload_n d_Judge_fuOfLast_69 rfl rfl ?_
  refine zq_icmp_ne (tgt := 86) d_Judge_fuOfLast_70 (by decide) (fun c => ?_) (fun c => ?_)
  · have hJ := hJ.1 c
    refine zr_less (L' := [some (.ref 2), none, none]) ⟨rfl, trivial⟩ ?_
    exact s_Judge_fuOfLast_L86    hJ
  · have hJ := hJ.2 c
    refine zq_iload_n d_Judge_fuOfLast_73 rfl rfl ?_
    refine zq_bipush (v := 9) d_Judge_fuOfLast_74 zk_b9 ?_
    refine zq_irem d_Judge_fuOfLast_76 (by decide) ?_
    refine zq_bipush (v := 6) d_Judge_fuOfLast_77 zk_b6 ?_
    refine zq_icmp_ne (tgt := 86) d_Judge_fuOfLast_79 (by decide) (fun c => ?_) (fun c => ?_)
    · have hJ := hJ.1 c
      refine zr_less (L' := [some (.ref 2), none, none]) ⟨rfl, trivial⟩ ?_
      exact s_Judge_fuOfLast_L86    hJ
    · have hJ := hJ.2 c
      refine zr_less (L' := [some (.ref 2), none, none]) ⟨rfl, trivial⟩ ?_
      exact s_Judge_fuOfLast_L82    hJ
set_option maxHeartbeats 400000 in
theorem s_Judge_fuOfLast {g : zk_T} {K : Int32 → zm → Prop} {m : zm} (hJ : j_Judge_fuOfLast  m K) : zq_Mt (zk_g g) y_Judge_fuOfLast 0 0 0 [.ref 2] (zm_hp m) (zm_QI K) := by
  unfold j_Judge_fuOfLast at hJ
  refine zq_meth (ini := false) rfl (fun h => by cases h) (Nat.le_of_ble_eq_true rfl) ?_
  refine zr_L (F := ("RiichiTable$Judge", prog_2_method_26_code, 3, (some .int), false, zq_rm 0 0 0)) (L' := [some (.ref 2), none, none]) rfl ?_
  refine zq_aload_n d_Judge_fuOfLast_0 rfl rfl ?_
  refine zm_getI fg_Judge_113 d_Judge_fuOfLast_1 zs_Judge rfl ?_
  refine zq_iconst (v := 4) d_Judge_fuOfLast_4 zk_i4 ?_
  refine zq_icmp_lt (tgt := 10) d_Judge_fuOfLast_5 (by decide) (fun c => ?_) (fun c => ?_)
  · have hJ := hJ.1 c
    refine zq_aload_n d_Judge_fuOfLast_10 rfl rfl ?_
    refine zm_getR fg_Judge_22 d_Judge_fuOfLast_11 zs_Judge rfl ?_
    refine zq_aload_n d_Judge_fuOfLast_14 rfl rfl ?_
    refine zm_getI fg_Judge_113 d_Judge_fuOfLast_15 zs_Judge rfl ?_
    obtain ⟨hb, hJ⟩ := hJ
    refine zm_ald d_Judge_fuOfLast_18 (rfl : zm_sh[8]? = some (.inl (0, 4, .inl (fun _ => 0)))) hb ?_
    refine zq_iconst (v := 4) d_Judge_fuOfLast_19 zk_i4 ?_
    refine zq_irem d_Judge_fuOfLast_20 (by decide) ?_
    refine zq_if_eq (tgt := 26) d_Judge_fuOfLast_21 (by decide) (fun c => ?_) (fun c => ?_)
    · have hJ := hJ.1 c
      refine zq_aload_n d_Judge_fuOfLast_26 rfl rfl ?_
      refine zm_getR fg_Judge_22 d_Judge_fuOfLast_27 zs_Judge rfl ?_
      refine zq_aload_n d_Judge_fuOfLast_30 rfl rfl ?_
      refine zm_getI fg_Judge_113 d_Judge_fuOfLast_31 zs_Judge rfl ?_
      obtain ⟨hb, hJ⟩ := hJ
      refine zm_ald d_Judge_fuOfLast_34 (rfl : zm_sh[8]? = some (.inl (0, 4, .inl (fun _ => 0)))) hb ?_
      refine zq_iconst (v := 4) d_Judge_fuOfLast_35 zk_i4 ?_
      refine zq_idiv d_Judge_fuOfLast_36 (by decide) ?_
      refine zr_topi (fun y1 hy1 => ?_)
      have hJ := hJ y1 hy1
      refine zr_istore_n (L' := [some (.ref 2), some (.int y1), none]) d_Judge_fuOfLast_37 rfl (Nat.le_of_ble_eq_true rfl) rfl ?_
      refine zq_aload_n d_Judge_fuOfLast_38 rfl rfl ?_
      refine zm_getI fg_Judge_35 d_Judge_fuOfLast_39 zs_Judge rfl ?_
      refine zq_iload_n d_Judge_fuOfLast_42 rfl rfl ?_
      refine zq_iconst (v := 1) d_Judge_fuOfLast_43 zk_i1 ?_
      refine zq_iadd d_Judge_fuOfLast_44 ?_
      refine zq_icmp_eq (tgt := 82) d_Judge_fuOfLast_45 (by decide) (fun c => ?_) (fun c => ?_)
      · have hJ := hJ.1 c
        refine zr_less (L' := [some (.ref 2), none, none]) ⟨rfl, trivial⟩ ?_
        exact s_Judge_fuOfLast_L82    hJ
      · have hJ := hJ.2 c
        refine zq_aload_n d_Judge_fuOfLast_48 rfl rfl ?_
        refine zm_getI fg_Judge_35 d_Judge_fuOfLast_49 zs_Judge rfl ?_
        refine zq_iload_n d_Judge_fuOfLast_52 rfl rfl ?_
        refine zq_iconst (v := 2) d_Judge_fuOfLast_53 zk_i2 ?_
        refine zq_iadd d_Judge_fuOfLast_54 ?_
        refine zq_icmp_ne (tgt := 65) d_Judge_fuOfLast_55 (by decide) (fun c => ?_) (fun c => ?_)
        · have hJ := hJ.1 c
          refine zr_less (L' := [some (.ref 2), some (.int y1), none]) ⟨rfl, ⟨rfl, trivial⟩⟩ ?_
          exact s_Judge_fuOfLast_L65    hJ
        · have hJ := hJ.2 c
          refine zq_iload_n d_Judge_fuOfLast_58 rfl rfl ?_
          refine zq_bipush (v := 9) d_Judge_fuOfLast_59 zk_b9 ?_
          refine zq_irem d_Judge_fuOfLast_61 (by decide) ?_
          refine zq_if_eq (tgt := 82) d_Judge_fuOfLast_62 (by decide) (fun c => ?_) (fun c => ?_)
          · have hJ := hJ.1 c
            refine zr_less (L' := [some (.ref 2), none, none]) ⟨rfl, trivial⟩ ?_
            exact s_Judge_fuOfLast_L82    hJ
          · have hJ := hJ.2 c
            refine zr_less (L' := [some (.ref 2), some (.int y1), none]) ⟨rfl, ⟨rfl, trivial⟩⟩ ?_
            exact s_Judge_fuOfLast_L65    hJ
    · have hJ := hJ.2 c
      refine zq_iconst (v := 0) d_Judge_fuOfLast_24 zk_i0 ?_
      exact zq_iret d_Judge_fuOfLast_25 rfl rfl (Nat.le_refl _) (Nat.le_refl _) ⟨_, _, rfl, rfl, hJ⟩
  · have hJ := hJ.2 c
    refine zq_iconst (v := 2) d_Judge_fuOfLast_8 zk_i2 ?_
    exact zq_iret d_Judge_fuOfLast_9 rfl rfl (Nat.le_refl _) (Nat.le_refl _) ⟨_, _, rfl, rfl, hJ⟩
set_option maxHeartbeats 400000 in
theorem s_Judge_has_L15 {g : zk_T} {a0 : Int64} {a2 : Int32} {K : Int32 → zm → Prop} {t0 : Int32} {m : zm} (hJ : j_Judge_has_L15 a0 a2  K t0 m) : zq_V (zk_g g) ("RiichiTable$Judge", prog_2_method_10_code, 3, (some .boolean), false, zq_rm 0 0 0) 0 0 15 [some (.long a0), none, some (.int a2)] [.int t0] (zm_hp m) (zm_QI K) := by
  unfold j_Judge_has_L15 at hJ
  exact zq_iret d_Judge_has_15 rfl hJ.1.nar (Nat.le_refl _) (Nat.le_refl _) ⟨_, _, rfl, rfl, hJ.2⟩
set_option maxHeartbeats 400000 in
theorem s_Judge_has {g : zk_T} {a0 : Int64} {a2 : Int32} {K : Int32 → zm → Prop} {m : zm} (hJ : j_Judge_has a0 a2 m K) : zq_Mt (zk_g g) y_Judge_has 0 0 0 [.long a0, .int a2] (zm_hp m) (zm_QI K) := by
  unfold j_Judge_has at hJ
  refine zq_meth (ini := false) rfl (fun h => by cases h) (Nat.le_of_ble_eq_true rfl) ?_
  refine zr_L (F := ("RiichiTable$Judge", prog_2_method_10_code, 3, (some .boolean), false, zq_rm 0 0 0)) (L' := [some (.long a0), none, some (.int a2)]) rfl ?_
  refine zq_lload_n d_Judge_has_0 rfl rfl ?_
  refine zq_iload_n d_Judge_has_1 rfl rfl ?_
  refine zq_lshr d_Judge_has_2 ?_
  refine zq_lconst (v := 1) d_Judge_has_3 zk_l1 ?_
  refine zq_land d_Judge_has_4 ?_
  refine zq_lconst (v := 0) d_Judge_has_5 zk_l0 ?_
  refine zq_lcmp d_Judge_has_6 ?_
  refine zq_if_eq (tgt := 14) d_Judge_has_7 (by decide) (fun c => ?_) (fun c => ?_)
  · have hJ := hJ.1 c
    refine zq_iconst (v := 0) d_Judge_has_14 zk_i0 ?_
    refine zr_less (L' := [some (.long a0), none, some (.int a2)]) ⟨rfl, ⟨rfl, trivial⟩⟩ ?_
    exact s_Judge_has_L15    hJ
  · have hJ := hJ.2 c
    refine zq_iconst (v := 1) d_Judge_has_10 zk_i1 ?_
    refine zq_goto (tgt := 15) d_Judge_has_11 (by decide) ?_
    refine zr_less (L' := [some (.long a0), none, some (.int a2)]) ⟨rfl, ⟨rfl, trivial⟩⟩ ?_
    exact s_Judge_has_L15    hJ
set_option maxHeartbeats 400000 in
theorem s_Judge_fuOfPair_L51 {g : zk_T} {K : Int32 → zm → Prop} {t0 : Int32} {t1 : Int32} {m : zm} (hJ : j_Judge_fuOfPair_L51   K t0 t1 m) : zq_V (zk_g g) ("RiichiTable$Judge", prog_2_method_25_code, 1, (some .int), false, zq_rm 1 0 0) 0 0 51 [some (.ref 2)] [.int t0, .int t1] (zm_hp m) (zm_QI K) := by
  unfold j_Judge_fuOfPair_L51 at hJ
  refine zq_iadd d_Judge_fuOfPair_51 ?_
  exact zq_iret d_Judge_fuOfPair_52 rfl rfl (Nat.le_refl _) (Nat.le_refl _) ⟨_, _, rfl, rfl, hJ⟩
set_option maxHeartbeats 400000 in
theorem s_Judge_fuOfPair_L34 {g : zk_T} {K : Int32 → zm → Prop} {t0 : Int32} {t1 : Int32} {m : zm} (hJ : j_Judge_fuOfPair_L34   K t0 t1 m) : zq_V (zk_g g) ("RiichiTable$Judge", prog_2_method_25_code, 1, (some .int), false, zq_rm 1 0 0) 0 0 34 [some (.ref 2)] [.int t0, .int t1] (zm_hp m) (zm_QI K) := by
  unfold j_Judge_fuOfPair_L34 at hJ
  refine zq_iadd d_Judge_fuOfPair_34 ?_
  refine zq_aload_n d_Judge_fuOfPair_35 rfl rfl ?_
  refine zm_getI fg_Judge_110 d_Judge_fuOfPair_36 zs_Judge rfl ?_
  refine zq_aload_n d_Judge_fuOfPair_39 rfl rfl ?_
  refine zm_getI fg_Judge_208 d_Judge_fuOfPair_40 zs_Judge rfl ?_
  refine zq_icmp_ne (tgt := 50) d_Judge_fuOfPair_43 (by decide) (fun c => ?_) (fun c => ?_)
  · have hJ := hJ.1 c
    refine zq_iconst (v := 0) d_Judge_fuOfPair_50 zk_i0 ?_
    refine zr_less (L' := [some (.ref 2)]) ⟨rfl, trivial⟩ ?_
    exact s_Judge_fuOfPair_L51    hJ
  · have hJ := hJ.2 c
    refine zq_iconst (v := 2) d_Judge_fuOfPair_46 zk_i2 ?_
    refine zq_goto (tgt := 51) d_Judge_fuOfPair_47 (by decide) ?_
    refine zr_less (L' := [some (.ref 2)]) ⟨rfl, trivial⟩ ?_
    exact s_Judge_fuOfPair_L51    hJ
set_option maxHeartbeats 400000 in
theorem s_Judge_fuOfPair_L18 {g : zk_T} {K : Int32 → zm → Prop} {t0 : Int32} {m : zm} (hJ : j_Judge_fuOfPair_L18   K t0 m) : zq_V (zk_g g) ("RiichiTable$Judge", prog_2_method_25_code, 1, (some .int), false, zq_rm 1 0 0) 0 0 18 [some (.ref 2)] [.int t0] (zm_hp m) (zm_QI K) := by
  unfold j_Judge_fuOfPair_L18 at hJ
  refine zq_aload_n d_Judge_fuOfPair_18 rfl rfl ?_
  refine zm_getI fg_Judge_110 d_Judge_fuOfPair_19 zs_Judge rfl ?_
  refine zq_aload_n d_Judge_fuOfPair_22 rfl rfl ?_
  refine zm_getI fg_Judge_205 d_Judge_fuOfPair_23 zs_Judge rfl ?_
  refine zq_icmp_ne (tgt := 33) d_Judge_fuOfPair_26 (by decide) (fun c => ?_) (fun c => ?_)
  · have hJ := hJ.1 c
    refine zq_iconst (v := 0) d_Judge_fuOfPair_33 zk_i0 ?_
    refine zr_less (L' := [some (.ref 2)]) ⟨rfl, trivial⟩ ?_
    exact s_Judge_fuOfPair_L34    hJ
  · have hJ := hJ.2 c
    refine zq_iconst (v := 2) d_Judge_fuOfPair_29 zk_i2 ?_
    refine zq_goto (tgt := 34) d_Judge_fuOfPair_30 (by decide) ?_
    refine zr_less (L' := [some (.ref 2)]) ⟨rfl, trivial⟩ ?_
    exact s_Judge_fuOfPair_L34    hJ
set_option maxHeartbeats 400000 in
theorem s_Judge_fuOfPair {g : zk_T} {K : Int32 → zm → Prop} {m : zm} (hJ : j_Judge_fuOfPair  m K) : zq_Mt (zk_g g) y_Judge_fuOfPair 1 0 0 [.ref 2] (zm_hp m) (zm_QI K) := by
  unfold j_Judge_fuOfPair at hJ
  refine zq_meth (ini := false) rfl (fun h => by cases h) (Nat.le_of_ble_eq_true rfl) ?_
  refine zr_L (F := ("RiichiTable$Judge", prog_2_method_25_code, 1, (some .int), false, zq_rm 1 0 0)) (L' := [some (.ref 2)]) rfl ?_
  refine zq_ldc2 (v := 15032385536) (zq_in (zq_c3 (List.mem_of_getElem? (i := 90) rfl)) rfl) d_Judge_fuOfPair_0 ?_
  refine zq_aload_n d_Judge_fuOfPair_3 rfl rfl ?_
  refine zm_getI fg_Judge_110 d_Judge_fuOfPair_4 zs_Judge rfl ?_
  refine zr_csI (as := [.long 15032385536, .int (m.1 2 3)]) (st := []) d_Judge_fuOfPair_7 cc_Judge_215 cs_Judge_has (s_Judge_has  hJ) rfl ⟨Nat.le_of_ble_eq_true rfl, Nat.le_of_ble_eq_true rfl⟩ (Nat.le_of_ble_eq_true rfl) ⟨Nat.le_refl _, Nat.le_refl _⟩ rfl (fun r2 m1 hJ => ?_)
  refine zq_if_eq (tgt := 17) d_Judge_fuOfPair_10 (by decide) (fun c => ?_) (fun c => ?_)
  · have hJ := hJ.1 c
    refine zq_iconst (v := 0) d_Judge_fuOfPair_17 zk_i0 ?_
    refine zr_less (L' := [some (.ref 2)]) ⟨rfl, trivial⟩ ?_
    exact s_Judge_fuOfPair_L18    hJ
  · have hJ := hJ.2 c
    refine zq_iconst (v := 2) d_Judge_fuOfPair_13 zk_i2 ?_
    refine zq_goto (tgt := 18) d_Judge_fuOfPair_14 (by decide) ?_
    refine zr_less (L' := [some (.ref 2)]) ⟨rfl, trivial⟩ ?_
    exact s_Judge_fuOfPair_L18    hJ
set_option maxHeartbeats 400000 in
theorem s_Judge_isSetClosed_L25 {g : zk_T} {a1 : Int32} {K : Int32 → zm → Prop} {t0 : Int32} {m : zm} (hJ : j_Judge_isSetClosed_L25 a1  K t0 m) : zq_V (zk_g g) ("RiichiTable$Judge", prog_2_method_20_code, 2, (some .boolean), false, zq_rm 0 0 0) 0 0 25 [some (.ref 2), some (.int a1)] [.int t0] (zm_hp m) (zm_QI K) := by
  unfold j_Judge_isSetClosed_L25 at hJ
  exact zq_iret d_Judge_isSetClosed_25 rfl hJ.1.nar (Nat.le_refl _) (Nat.le_refl _) ⟨_, _, rfl, rfl, hJ.2⟩
set_option maxHeartbeats 400000 in
theorem s_Judge_isSetClosed_L46 {g : zk_T} {a1 : Int32} {K : Int32 → zm → Prop} {t0 : Int32} {m : zm} (hJ : j_Judge_isSetClosed_L46 a1  K t0 m) : zq_V (zk_g g) ("RiichiTable$Judge", prog_2_method_20_code, 2, (some .boolean), false, zq_rm 0 0 0) 0 0 46 [some (.ref 2), some (.int a1)] [.int t0] (zm_hp m) (zm_QI K) := by
  unfold j_Judge_isSetClosed_L46 at hJ
  exact zq_iret d_Judge_isSetClosed_46 rfl hJ.1.nar (Nat.le_refl _) (Nat.le_refl _) ⟨_, _, rfl, rfl, hJ.2⟩
set_option maxHeartbeats 400000 in
theorem s_Judge_isSetClosed_L41 {g : zk_T} {a1 : Int32} {K : Int32 → zm → Prop} {m : zm} (hJ : j_Judge_isSetClosed_L41 a1  K  m) : zq_V (zk_g g) ("RiichiTable$Judge", prog_2_method_20_code, 2, (some .boolean), false, zq_rm 0 0 0) 0 0 41 [some (.ref 2), some (.int a1)] [] (zm_hp m) (zm_QI K) := by
  unfold j_Judge_isSetClosed_L41 at hJ
  refine zq_iconst (v := 1) d_Judge_isSetClosed_41 zk_i1 ?_
  refine zq_goto (tgt := 46) d_Judge_isSetClosed_42 (by decide) ?_
  refine zr_less (L' := [some (.ref 2), some (.int a1)]) ⟨rfl, ⟨rfl, trivial⟩⟩ ?_
  exact s_Judge_isSetClosed_L46    hJ
set_option maxHeartbeats 400000 in
theorem s_Judge_isSetClosed {g : zk_T} {a1 : Int32} {K : Int32 → zm → Prop} {m : zm} (hJ : j_Judge_isSetClosed a1 m K) : zq_Mt (zk_g g) y_Judge_isSetClosed 0 0 0 [.ref 2, .int a1] (zm_hp m) (zm_QI K) := by
  unfold j_Judge_isSetClosed at hJ
  refine zq_meth (ini := false) rfl (fun h => by cases h) (Nat.le_of_ble_eq_true rfl) ?_
  refine zr_L (F := ("RiichiTable$Judge", prog_2_method_20_code, 2, (some .boolean), false, zq_rm 0 0 0)) (L' := [some (.ref 2), some (.int a1)]) rfl ?_
  refine zq_iload_n d_Judge_isSetClosed_0 rfl rfl ?_
  refine zq_aload_n d_Judge_isSetClosed_1 rfl rfl ?_
  refine zm_getI fg_Judge_48 d_Judge_isSetClosed_2 zs_Judge rfl ?_
  refine zq_icmp_ge (tgt := 26) d_Judge_isSetClosed_5 (by decide) (fun c => ?_) (fun c => ?_)
  · have hJ := hJ.1 c
    refine zq_aload_n d_Judge_isSetClosed_26 rfl rfl ?_
    refine zm_getI fg_Judge_39 d_Judge_isSetClosed_27 zs_Judge rfl ?_
    refine zq_if_ne (tgt := 41) d_Judge_isSetClosed_30 (by decide) (fun c => ?_) (fun c => ?_)
    · have hJ := hJ.1 c
      refine zr_less (L' := [some (.ref 2), some (.int a1)]) ⟨rfl, ⟨rfl, trivial⟩⟩ ?_
      exact s_Judge_isSetClosed_L41    hJ
    · have hJ := hJ.2 c
      refine zq_aload_n d_Judge_isSetClosed_33 rfl rfl ?_
      refine zm_getI fg_Judge_113 d_Judge_isSetClosed_34 zs_Judge rfl ?_
      refine zq_iload_n d_Judge_isSetClosed_37 rfl rfl ?_
      refine zq_icmp_eq (tgt := 45) d_Judge_isSetClosed_38 (by decide) (fun c => ?_) (fun c => ?_)
      · have hJ := hJ.1 c
        refine zq_iconst (v := 0) d_Judge_isSetClosed_45 zk_i0 ?_
        refine zr_less (L' := [some (.ref 2), some (.int a1)]) ⟨rfl, ⟨rfl, trivial⟩⟩ ?_
        exact s_Judge_isSetClosed_L46    hJ
      · have hJ := hJ.2 c
        refine zr_less (L' := [some (.ref 2), some (.int a1)]) ⟨rfl, ⟨rfl, trivial⟩⟩ ?_
        exact s_Judge_isSetClosed_L41    hJ
  · have hJ := hJ.2 c
    refine zq_aload_n d_Judge_isSetClosed_8 rfl rfl ?_
    refine zm_getR fg_Judge_22 d_Judge_isSetClosed_9 zs_Judge rfl ?_
    refine zq_iload_n d_Judge_isSetClosed_12 rfl rfl ?_
    obtain ⟨hb, hJ⟩ := hJ
    refine zm_ald d_Judge_isSetClosed_13 (rfl : zm_sh[8]? = some (.inl (0, 4, .inl (fun _ => 0)))) hb ?_
    refine zq_iconst (v := 4) d_Judge_isSetClosed_14 zk_i4 ?_
    refine zq_irem d_Judge_isSetClosed_15 (by decide) ?_
    refine zq_iconst (v := 3) d_Judge_isSetClosed_16 zk_i3 ?_
    refine zq_icmp_ne (tgt := 24) d_Judge_isSetClosed_17 (by decide) (fun c => ?_) (fun c => ?_)
    · have hJ := hJ.1 c
      refine zq_iconst (v := 0) d_Judge_isSetClosed_24 zk_i0 ?_
      refine zr_less (L' := [some (.ref 2), some (.int a1)]) ⟨rfl, ⟨rfl, trivial⟩⟩ ?_
      exact s_Judge_isSetClosed_L25    hJ
    · have hJ := hJ.2 c
      refine zq_iconst (v := 1) d_Judge_isSetClosed_20 zk_i1 ?_
      refine zq_goto (tgt := 25) d_Judge_isSetClosed_21 (by decide) ?_
      refine zr_less (L' := [some (.ref 2), some (.int a1)]) ⟨rfl, ⟨rfl, trivial⟩⟩ ?_
      exact s_Judge_isSetClosed_L25    hJ
set_option maxHeartbeats 400000 in
theorem s_Shape_isOuter_L17 {g : zk_T} {a0 : Int32} {K : Int32 → zm → Prop} {t0 : Int32} {m : zm} (hJ : j_Shape_isOuter_L17 a0  K t0 m) : zq_V (zk_g g) ("RiichiTable$Shape", prog_4_method_2_code, 1, (some .boolean), false, zq_rm 0 0 0) 0 0 17 [some (.int a0)] [.int t0] (zm_hp m) (zm_QI K) := by
  unfold j_Shape_isOuter_L17 at hJ
  exact zq_iret d_Shape_isOuter_17 rfl hJ.1.nar (Nat.le_refl _) (Nat.le_refl _) ⟨_, _, rfl, rfl, hJ.2⟩
set_option maxHeartbeats 400000 in
theorem s_Shape_isOuter {g : zk_T} {a0 : Int32} {K : Int32 → zm → Prop} {m : zm} (hJ : j_Shape_isOuter a0 m K) : zq_Mt (zk_g g) y_Shape_isOuter 0 0 0 [.int a0] (zm_hp m) (zm_QI K) := by
  unfold j_Shape_isOuter at hJ
  refine zq_meth (ini := false) rfl (fun h => by cases h) (Nat.le_of_ble_eq_true rfl) ?_
  refine zr_L (F := ("RiichiTable$Shape", prog_4_method_2_code, 1, (some .boolean), false, zq_rm 0 0 0)) (L' := [some (.int a0)]) rfl ?_
  refine zq_ldc2 (v := 17113154305) (zq_in (zq_c2 (List.mem_of_getElem? (i := 135) rfl)) rfl) d_Shape_isOuter_0 ?_
  refine zq_iload_n d_Shape_isOuter_3 rfl rfl ?_
  refine zq_lshr d_Shape_isOuter_4 ?_
  refine zq_lconst (v := 1) d_Shape_isOuter_5 zk_l1 ?_
  refine zq_land d_Shape_isOuter_6 ?_
  refine zq_lconst (v := 0) d_Shape_isOuter_7 zk_l0 ?_
  refine zq_lcmp d_Shape_isOuter_8 ?_
  refine zq_if_eq (tgt := 16) d_Shape_isOuter_9 (by decide) (fun c => ?_) (fun c => ?_)
  · have hJ := hJ.1 c
    refine zq_iconst (v := 0) d_Shape_isOuter_16 zk_i0 ?_
    refine zr_less (L' := [some (.int a0)]) ⟨rfl, trivial⟩ ?_
    exact s_Shape_isOuter_L17    hJ
  · have hJ := hJ.2 c
    refine zq_iconst (v := 1) d_Shape_isOuter_12 zk_i1 ?_
    refine zq_goto (tgt := 17) d_Shape_isOuter_13 (by decide) ?_
    refine zr_less (L' := [some (.int a0)]) ⟨rfl, trivial⟩ ?_
    exact s_Shape_isOuter_L17    hJ
set_option maxHeartbeats 400000 in
theorem s_Judge_fuOfSet_L63 {g : zk_T} {a1 : Int32} {K : Int32 → zm → Prop} {t0 : Int32} {m : zm} (hJ : j_Judge_fuOfSet_L63 a1  K t0 m) : zq_V (zk_g g) ("RiichiTable$Judge", prog_2_method_27_code, 4, (some .int), false, zq_rm 1 0 0) 0 0 63 [some (.ref 2), some (.int a1), none, none] [.int t0] (zm_hp m) (zm_QI K) := by
  unfold j_Judge_fuOfSet_L63 at hJ
  exact zq_iret d_Judge_fuOfSet_63 rfl rfl (Nat.le_refl _) (Nat.le_refl _) ⟨_, _, rfl, rfl, hJ⟩
set_option maxHeartbeats 400000 in
theorem s_Judge_fuOfSet_L49 {g : zk_T} {a1 : Int32} {K : Int32 → zm → Prop} {x2 : Int32} {t0 : Int32} {t1 : Int32} {m : zm} (hJ : j_Judge_fuOfSet_L49 a1  K x2 t0 t1 m) : zq_V (zk_g g) ("RiichiTable$Judge", prog_2_method_27_code, 4, (some .int), false, zq_rm 1 0 0) 0 0 49 [some (.ref 2), some (.int a1), some (.int x2), none] [.int t0, .int t1] (zm_hp m) (zm_QI K) := by
  unfold j_Judge_fuOfSet_L49 at hJ
  refine zq_imul d_Judge_fuOfSet_49 ?_
  refine zr_topi (fun y6 hy6 => ?_)
  have hJ := hJ y6 hy6
  refine zr_istore_n (L' := [some (.ref 2), some (.int a1), some (.int x2), some (.int y6)]) d_Judge_fuOfSet_50 rfl (Nat.le_of_ble_eq_true rfl) rfl ?_
  refine zq_iload_n d_Judge_fuOfSet_51 rfl rfl ?_
  refine zq_iconst (v := 1) d_Judge_fuOfSet_52 zk_i1 ?_
  refine zq_icmp_ne (tgt := 60) d_Judge_fuOfSet_53 (by decide) (fun c => ?_) (fun c => ?_)
  · have hJ := hJ.1 c
    refine zq_iconst (v := 4) d_Judge_fuOfSet_60 zk_i4 ?_
    refine zq_iload_n d_Judge_fuOfSet_61 rfl rfl ?_
    refine zq_imul d_Judge_fuOfSet_62 ?_
    refine zr_less (L' := [some (.ref 2), some (.int a1), none, none]) ⟨rfl, ⟨rfl, trivial⟩⟩ ?_
    exact s_Judge_fuOfSet_L63    hJ
  · have hJ := hJ.2 c
    refine zq_iload_n d_Judge_fuOfSet_56 rfl rfl ?_
    refine zq_goto (tgt := 63) d_Judge_fuOfSet_57 (by decide) ?_
    refine zr_less (L' := [some (.ref 2), some (.int a1), none, none]) ⟨rfl, ⟨rfl, trivial⟩⟩ ?_
    exact s_Judge_fuOfSet_L63    hJ
set_option maxHeartbeats 400000 in
theorem s_Judge_fuOfSet_L28 {g : zk_T} {a1 : Int32} {K : Int32 → zm → Prop} {x2 : Int32} {t0 : Int32} {m : zm} (hJ : j_Judge_fuOfSet_L28 a1  K x2 t0 m) : zq_V (zk_g g) ("RiichiTable$Judge", prog_2_method_27_code, 4, (some .int), false, zq_rm 1 0 0) 0 0 28 [some (.ref 2), some (.int a1), some (.int x2), none] [.int t0] (zm_hp m) (zm_QI K) := by
  unfold j_Judge_fuOfSet_L28 at hJ
  refine zr_istore_n (L' := [some (.ref 2), some (.int a1), some (.int x2), some (.int t0)]) d_Judge_fuOfSet_28 rfl (Nat.le_of_ble_eq_true rfl) rfl ?_
  refine zq_iload_n d_Judge_fuOfSet_29 rfl rfl ?_
  refine zq_aload_n d_Judge_fuOfSet_30 rfl rfl ?_
  refine zm_getR fg_Judge_22 d_Judge_fuOfSet_31 zs_Judge rfl ?_
  refine zq_iload_n d_Judge_fuOfSet_34 rfl rfl ?_
  obtain ⟨hb, hJ⟩ := hJ
  refine zm_ald d_Judge_fuOfSet_35 (rfl : zm_sh[8]? = some (.inl (0, 4, .inl (fun _ => 0)))) hb ?_
  refine zq_iconst (v := 4) d_Judge_fuOfSet_36 zk_i4 ?_
  refine zq_idiv d_Judge_fuOfSet_37 (by decide) ?_
  refine zr_csI (as := [.int ((m.1 8 (Int32.toNatClampNeg a1)) / 4)]) (st := [.int t0]) d_Judge_fuOfSet_38 cc_Judge_211 cs_Shape_isOuter (s_Shape_isOuter  hJ) rfl ⟨Nat.le_of_ble_eq_true rfl, Nat.le_of_ble_eq_true rfl⟩ (Nat.le_of_ble_eq_true rfl) ⟨Nat.le_refl _, Nat.le_refl _⟩ rfl (fun r5 m4 hJ => ?_)
  refine zq_if_eq (tgt := 48) d_Judge_fuOfSet_41 (by decide) (fun c => ?_) (fun c => ?_)
  · have hJ := hJ.1 c
    refine zq_iconst (v := 1) d_Judge_fuOfSet_48 zk_i1 ?_
    refine zr_less (L' := [some (.ref 2), some (.int a1), some (.int x2), none]) ⟨rfl, ⟨rfl, ⟨rfl, trivial⟩⟩⟩ ?_
    exact s_Judge_fuOfSet_L49    hJ
  · have hJ := hJ.2 c
    refine zq_iconst (v := 2) d_Judge_fuOfSet_44 zk_i2 ?_
    refine zq_goto (tgt := 49) d_Judge_fuOfSet_45 (by decide) ?_
    refine zr_less (L' := [some (.ref 2), some (.int a1), some (.int x2), none]) ⟨rfl, ⟨rfl, ⟨rfl, trivial⟩⟩⟩ ?_
    exact s_Judge_fuOfSet_L49    hJ
set_option maxHeartbeats 400000 in
theorem s_Judge_fuOfSet {g : zk_T} {a1 : Int32} {K : Int32 → zm → Prop} {m : zm} (hJ : j_Judge_fuOfSet a1 m K) : zq_Mt (zk_g g) y_Judge_fuOfSet 1 0 0 [.ref 2, .int a1] (zm_hp m) (zm_QI K) := by
  unfold j_Judge_fuOfSet at hJ
  refine zq_meth (ini := false) rfl (fun h => by cases h) (Nat.le_of_ble_eq_true rfl) ?_
  refine zr_L (F := ("RiichiTable$Judge", prog_2_method_27_code, 4, (some .int), false, zq_rm 1 0 0)) (L' := [some (.ref 2), some (.int a1), none, none]) rfl ?_
  refine zq_aload_n d_Judge_fuOfSet_0 rfl rfl ?_
  refine zm_getR fg_Judge_22 d_Judge_fuOfSet_1 zs_Judge rfl ?_
  refine zq_iload_n d_Judge_fuOfSet_4 rfl rfl ?_
  obtain ⟨hb, hJ⟩ := hJ
  refine zm_ald d_Judge_fuOfSet_5 (rfl : zm_sh[8]? = some (.inl (0, 4, .inl (fun _ => 0)))) hb ?_
  refine zq_iconst (v := 4) d_Judge_fuOfSet_6 zk_i4 ?_
  refine zq_irem d_Judge_fuOfSet_7 (by decide) ?_
  refine zr_topi (fun y1 hy1 => ?_)
  have hJ := hJ y1 hy1
  refine zr_istore_n (L' := [some (.ref 2), some (.int a1), some (.int y1), none]) d_Judge_fuOfSet_8 rfl (Nat.le_of_ble_eq_true rfl) rfl ?_
  refine zq_iload_n d_Judge_fuOfSet_9 rfl rfl ?_
  refine zq_if_ne (tgt := 15) d_Judge_fuOfSet_10 (by decide) (fun c => ?_) (fun c => ?_)
  · have hJ := hJ.1 c
    refine zq_aload_n d_Judge_fuOfSet_15 rfl rfl ?_
    refine zq_iload_n d_Judge_fuOfSet_16 rfl rfl ?_
    refine zr_cvI (q := 2) (as := [.int a1]) (st := []) d_Judge_fuOfSet_17 cc_Judge_228 cv_Judge_isSetClosed zs_Judge (s_Judge_isSetClosed  hJ) rfl ⟨Nat.le_of_ble_eq_true rfl, Nat.le_of_ble_eq_true rfl⟩ (Nat.le_of_ble_eq_true rfl) ⟨Nat.le_refl _, Nat.le_refl _⟩ rfl (fun r3 m2 hJ => ?_)
    refine zq_if_eq (tgt := 27) d_Judge_fuOfSet_20 (by decide) (fun c => ?_) (fun c => ?_)
    · have hJ := hJ.1 c
      refine zq_iconst (v := 2) d_Judge_fuOfSet_27 zk_i2 ?_
      refine zr_less (L' := [some (.ref 2), some (.int a1), some (.int y1), none]) ⟨rfl, ⟨rfl, ⟨rfl, trivial⟩⟩⟩ ?_
      exact s_Judge_fuOfSet_L28    hJ
    · have hJ := hJ.2 c
      refine zq_iconst (v := 4) d_Judge_fuOfSet_23 zk_i4 ?_
      refine zq_goto (tgt := 28) d_Judge_fuOfSet_24 (by decide) ?_
      refine zr_less (L' := [some (.ref 2), some (.int a1), some (.int y1), none]) ⟨rfl, ⟨rfl, ⟨rfl, trivial⟩⟩⟩ ?_
      exact s_Judge_fuOfSet_L28    hJ
  · have hJ := hJ.2 c
    refine zq_iconst (v := 0) d_Judge_fuOfSet_13 zk_i0 ?_
    exact zq_iret d_Judge_fuOfSet_14 rfl rfl (Nat.le_refl _) (Nat.le_refl _) ⟨_, _, rfl, rfl, hJ⟩
set_option maxHeartbeats 400000 in
theorem s_Judge_countFu_L87 {g : zk_T} {K : Int32 → zm → Prop} {t0 : Int32} {m : zm} (hJ : j_Judge_countFu_L87   K t0 m) : zq_V (zk_g g) ("RiichiTable$Judge", prog_2_method_24_code, 3, (some .int), false, zq_rm 2 0 0) 0 0 87 [some (.ref 2), none, none] [.int t0] (zm_hp m) (zm_QI K) := by
  unfold j_Judge_countFu_L87 at hJ
  exact zq_iret d_Judge_countFu_87 rfl rfl (Nat.le_refl _) (Nat.le_refl _) ⟨_, _, rfl, rfl, hJ⟩
set_option maxHeartbeats 400000 in
theorem s_Judge_countFu_L86 {g : zk_T} {K : Int32 → zm → Prop} {x2 : Int32} {m : zm} (hJ : j_Judge_countFu_L86   K x2 m) : zq_V (zk_g g) ("RiichiTable$Judge", prog_2_method_24_code, 3, (some .int), false, zq_rm 2 0 0) 0 0 86 [some (.ref 2), none, some (.int x2)] [] (zm_hp m) (zm_QI K) := by
  unfold j_Judge_countFu_L86 at hJ
  refine zq_iload_n d_Judge_countFu_86 rfl rfl ?_
  refine zr_less (L' := [some (.ref 2), none, none]) ⟨rfl, trivial⟩ ?_
  exact s_Judge_countFu_L87    hJ
set_option maxHeartbeats 400000 in
theorem s_Judge_countFu_L38 {g : zk_T} {K : Int32 → zm → Prop} : ∀ (n : Nat) {x1 : Int32} {x2 : Int32} {m : zm}, j_Judge_countFu_L38   K n x1 x2 m → zq_V (zk_g g) ("RiichiTable$Judge", prog_2_method_24_code, 3, (some .int), false, zq_rm 2 0 0) 0 0 38 [some (.ref 2), some (.int x1), some (.int x2)] [] (zm_hp m) (zm_QI K) := by
  intro n
  induction n with
  | zero =>
    intro x1 x2 m hJ
    exact False.elim hJ
  | succ n ih =>
    intro x1 x2 m hJ
    rw [j_Judge_countFu_L38] at hJ
    refine zq_iload_n d_Judge_countFu_38 rfl rfl ?_
    refine zq_iconst (v := 4) d_Judge_countFu_39 zk_i4 ?_
    refine zq_icmp_ge (tgt := 57) d_Judge_countFu_40 (by decide) (fun c => ?_) (fun c => ?_)
    · have hJ := hJ.1 c
      refine zq_iload_n d_Judge_countFu_57 rfl rfl ?_
      refine zq_bipush (v := 9) d_Judge_countFu_58 zk_b9 ?_
      refine zq_iadd d_Judge_countFu_60 ?_
      refine zq_bipush (v := 10) d_Judge_countFu_61 zk_b10 ?_
      refine zq_idiv d_Judge_countFu_63 (by decide) ?_
      refine zq_bipush (v := 10) d_Judge_countFu_64 zk_b10 ?_
      refine zq_imul d_Judge_countFu_66 ?_
      refine zr_topi (fun y8 hy8 => ?_)
      have hJ := hJ y8 hy8
      refine zr_istore_n (L' := [some (.ref 2), some (.int x1), some (.int y8)]) d_Judge_countFu_67 rfl (Nat.le_of_ble_eq_true rfl) rfl ?_
      refine zq_iload_n d_Judge_countFu_68 rfl rfl ?_
      refine zq_bipush (v := 20) d_Judge_countFu_69 zk_b20 ?_
      refine zq_icmp_ne (tgt := 86) d_Judge_countFu_71 (by decide) (fun c => ?_) (fun c => ?_)
      · have hJ := hJ.1 c
        refine zr_less (L' := [some (.ref 2), none, some (.int y8)]) ⟨rfl, ⟨rfl, trivial⟩⟩ ?_
        exact s_Judge_countFu_L86    hJ
      · have hJ := hJ.2 c
        refine zq_aload_n d_Judge_countFu_74 rfl rfl ?_
        refine zm_getI fg_Judge_53 d_Judge_countFu_75 zs_Judge rfl ?_
        refine zq_if_ne (tgt := 86) d_Judge_countFu_78 (by decide) (fun c => ?_) (fun c => ?_)
        · have hJ := hJ.1 c
          refine zr_less (L' := [some (.ref 2), none, some (.int y8)]) ⟨rfl, ⟨rfl, trivial⟩⟩ ?_
          exact s_Judge_countFu_L86    hJ
        · have hJ := hJ.2 c
          refine zq_bipush (v := 30) d_Judge_countFu_81 zk_b30 ?_
          refine zq_goto (tgt := 87) d_Judge_countFu_83 (by decide) ?_
          refine zr_less (L' := [some (.ref 2), none, none]) ⟨rfl, trivial⟩ ?_
          exact s_Judge_countFu_L87    hJ
    · have hJ := hJ.2 c
      refine zq_iload_n d_Judge_countFu_43 rfl rfl ?_
      refine zq_aload_n d_Judge_countFu_44 rfl rfl ?_
      refine zq_iload_n d_Judge_countFu_45 rfl rfl ?_
      refine zr_cvI (q := 2) (as := [.int x2]) (st := [.int x1]) d_Judge_countFu_46 cc_Judge_253 cv_Judge_fuOfSet zs_Judge (s_Judge_fuOfSet  hJ) rfl ⟨Nat.le_of_ble_eq_true rfl, Nat.le_of_ble_eq_true rfl⟩ (Nat.le_of_ble_eq_true rfl) ⟨Nat.le_refl _, Nat.le_refl _⟩ rfl (fun r10 m9 hJ => ?_)
      refine zq_iadd d_Judge_countFu_49 ?_
      refine zr_topi (fun y11 hy11 => ?_)
      have hJ := hJ y11 hy11
      refine zr_istore_n (L' := [some (.ref 2), some (.int y11), some (.int x2)]) d_Judge_countFu_50 rfl (Nat.le_of_ble_eq_true rfl) rfl ?_
      refine zr_iinc (d' := 1) d_Judge_countFu_51 zk_i1 rfl (Nat.le_of_ble_eq_true rfl) (fun y12 hy12 => ?_)
      have hJ := hJ y12 hy12
      refine zr_L (L' := [some (.ref 2), some (.int y11), some (.int y12)]) rfl ?_
      refine zq_goto (tgt := 38) d_Judge_countFu_54 (by decide) ?_
      refine zr_less (L' := [some (.ref 2), some (.int y11), some (.int y12)]) ⟨rfl, ⟨rfl, ⟨rfl, trivial⟩⟩⟩ ?_
      exact ih  hJ
set_option maxHeartbeats 400000 in
theorem s_Judge_countFu_L36 {g : zk_T} {K : Int32 → zm → Prop} {x1 : Int32} {m : zm} (hJ : j_Judge_countFu_L36   K x1 m) : zq_V (zk_g g) ("RiichiTable$Judge", prog_2_method_24_code, 3, (some .int), false, zq_rm 2 0 0) 0 0 36 [some (.ref 2), some (.int x1), none] [] (zm_hp m) (zm_QI K) := by
  unfold j_Judge_countFu_L36 at hJ
  refine zq_iconst (v := 0) d_Judge_countFu_36 zk_i0 ?_
  refine zr_istore_n (L' := [some (.ref 2), some (.int x1), some (.int 0)]) d_Judge_countFu_37 rfl (Nat.le_of_ble_eq_true rfl) rfl ?_
  refine zr_less (L' := [some (.ref 2), some (.int x1), some (.int 0)]) ⟨rfl, ⟨rfl, ⟨rfl, trivial⟩⟩⟩ ?_
  obtain ⟨n38, hJ⟩ := hJ
  exact s_Judge_countFu_L38   n38  hJ
set_option maxHeartbeats 400000 in
theorem s_Judge_countFu {g : zk_T} {K : Int32 → zm → Prop} {m : zm} (hJ : j_Judge_countFu  m K) : zq_Mt (zk_g g) y_Judge_countFu 2 0 0 [.ref 2] (zm_hp m) (zm_QI K) := by
  unfold j_Judge_countFu at hJ
  refine zq_meth (ini := false) rfl (fun h => by cases h) (Nat.le_of_ble_eq_true rfl) ?_
  refine zr_L (F := ("RiichiTable$Judge", prog_2_method_24_code, 3, (some .int), false, zq_rm 2 0 0)) (L' := [some (.ref 2), none, none]) rfl ?_
  refine zq_bipush (v := 20) d_Judge_countFu_0 zk_b20 ?_
  refine zq_aload_n d_Judge_countFu_2 rfl rfl ?_
  refine zr_cvI (q := 2) (as := []) (st := [.int 20]) d_Judge_countFu_3 cc_Judge_247 cv_Judge_fuOfPair zs_Judge (s_Judge_fuOfPair  hJ) rfl ⟨Nat.le_of_ble_eq_true rfl, Nat.le_of_ble_eq_true rfl⟩ (Nat.le_of_ble_eq_true rfl) ⟨Nat.le_refl _, Nat.le_refl _⟩ rfl (fun r2 m1 hJ => ?_)
  refine zq_iadd d_Judge_countFu_6 ?_
  refine zq_aload_n d_Judge_countFu_7 rfl rfl ?_
  refine zr_cvI (q := 2) (as := []) (st := [.int (20 + r2)]) d_Judge_countFu_8 cc_Judge_250 cv_Judge_fuOfLast zs_Judge (s_Judge_fuOfLast  hJ) rfl ⟨Nat.le_of_ble_eq_true rfl, Nat.le_of_ble_eq_true rfl⟩ (Nat.le_of_ble_eq_true rfl) ⟨Nat.le_refl _, Nat.le_refl _⟩ rfl (fun r4 m3 hJ => ?_)
  refine zq_iadd d_Judge_countFu_11 ?_
  refine zr_topi (fun y5 hy5 => ?_)
  have hJ := hJ y5 hy5
  refine zr_istore_n (L' := [some (.ref 2), some (.int y5), none]) d_Judge_countFu_12 rfl (Nat.le_of_ble_eq_true rfl) rfl ?_
  refine zq_aload_n d_Judge_countFu_13 rfl rfl ?_
  refine zm_getI fg_Judge_39 d_Judge_countFu_14 zs_Judge rfl ?_
  refine zq_if_eq (tgt := 26) d_Judge_countFu_17 (by decide) (fun c => ?_) (fun c => ?_)
  · have hJ := hJ.1 c
    refine zq_aload_n d_Judge_countFu_26 rfl rfl ?_
    refine zm_getI fg_Judge_53 d_Judge_countFu_27 zs_Judge rfl ?_
    refine zq_if_eq (tgt := 36) d_Judge_countFu_30 (by decide) (fun c => ?_) (fun c => ?_)
    · have hJ := hJ.1 c
      refine zr_less (L' := [some (.ref 2), some (.int y5), none]) ⟨rfl, ⟨rfl, trivial⟩⟩ ?_
      exact s_Judge_countFu_L36    hJ
    · have hJ := hJ.2 c
      refine zr_iinc (d' := 10) d_Judge_countFu_33 zk_i10 rfl (Nat.le_of_ble_eq_true rfl) (fun y6 hy6 => ?_)
      have hJ := hJ y6 hy6
      refine zr_L (L' := [some (.ref 2), some (.int y6), none]) rfl ?_
      refine zr_less (L' := [some (.ref 2), some (.int y6), none]) ⟨rfl, ⟨rfl, trivial⟩⟩ ?_
      exact s_Judge_countFu_L36    hJ
  · have hJ := hJ.2 c
    refine zr_iinc (d' := 2) d_Judge_countFu_20 zk_i2 rfl (Nat.le_of_ble_eq_true rfl) (fun y7 hy7 => ?_)
    have hJ := hJ y7 hy7
    refine zr_L (L' := [some (.ref 2), some (.int y7), none]) rfl ?_
    refine zq_goto (tgt := 36) d_Judge_countFu_23 (by decide) ?_
    refine zr_less (L' := [some (.ref 2), some (.int y7), none]) ⟨rfl, ⟨rfl, trivial⟩⟩ ?_
    exact s_Judge_countFu_L36    hJ
set_option maxHeartbeats 400000 in
theorem s_Judge_kindsOfSets_L50 {g : zk_T} {a1 : Int32} {R5 : Int64 → Int32 → zm → Prop} {K : Int64 → zm → Prop} (hR5 : ∀ {x2 : Int64} {x4 : Int32} {m : zm}, R5 x2 x4 m → zq_V (zk_g g) ("RiichiTable$Judge", prog_2_method_11_code, 6, (some .long), false, zq_rm 0 0 0) 0 0 5 [some (.ref 2), some (.int a1), some (.long x2), none, some (.int x4), none] [] (zm_hp m) (zm_QL K)) {x2 : Int64} {x4 : Int32} {m : zm} (hJ : j_Judge_kindsOfSets_L50 a1 R5 K x2 x4 m) : zq_V (zk_g g) ("RiichiTable$Judge", prog_2_method_11_code, 6, (some .long), false, zq_rm 0 0 0) 0 0 50 [some (.ref 2), some (.int a1), some (.long x2), none, some (.int x4), none] [] (zm_hp m) (zm_QL K) := by
  unfold j_Judge_kindsOfSets_L50 at hJ
  refine zr_iinc (d' := 1) d_Judge_kindsOfSets_50 zk_i1 rfl (Nat.le_of_ble_eq_true rfl) (fun y2 hy2 => ?_)
  have hJ := hJ y2 hy2
  refine zr_L (L' := [some (.ref 2), some (.int a1), some (.long x2), none, some (.int y2), none]) rfl ?_
  refine zq_goto (tgt := 5) d_Judge_kindsOfSets_53 (by decide) ?_
  refine zr_less (L' := [some (.ref 2), some (.int a1), some (.long x2), none, some (.int y2), none]) ⟨rfl, ⟨rfl, ⟨rfl, ⟨rfl, trivial⟩⟩⟩⟩ ?_
  exact hR5  hJ
set_option maxHeartbeats 400000 in
theorem s_Judge_kindsOfSets_L28 {g : zk_T} {a1 : Int32} {R5 : Int64 → Int32 → zm → Prop} {K : Int64 → zm → Prop} (hR5 : ∀ {x2 : Int64} {x4 : Int32} {m : zm}, R5 x2 x4 m → zq_V (zk_g g) ("RiichiTable$Judge", prog_2_method_11_code, 6, (some .long), false, zq_rm 0 0 0) 0 0 5 [some (.ref 2), some (.int a1), some (.long x2), none, some (.int x4), none] [] (zm_hp m) (zm_QL K)) {x2 : Int64} {x4 : Int32} {t0 : Int32} {m : zm} (hJ : j_Judge_kindsOfSets_L28 a1 R5 K x2 x4 t0 m) : zq_V (zk_g g) ("RiichiTable$Judge", prog_2_method_11_code, 6, (some .long), false, zq_rm 0 0 0) 0 0 28 [some (.ref 2), some (.int a1), some (.long x2), none, some (.int x4), none] [.int t0] (zm_hp m) (zm_QL K) := by
  unfold j_Judge_kindsOfSets_L28 at hJ
  refine zr_istore (L' := [some (.ref 2), some (.int a1), some (.long x2), none, some (.int x4), some (.int t0)]) d_Judge_kindsOfSets_28 (Nat.le_of_ble_eq_true rfl) rfl ?_
  refine zq_iload d_Judge_kindsOfSets_30 rfl ?_
  refine zq_iload_n d_Judge_kindsOfSets_32 rfl rfl ?_
  refine zq_icmp_ne (tgt := 50) d_Judge_kindsOfSets_33 (by decide) (fun c => ?_) (fun c => ?_)
  · have hJ := hJ.1 c
    refine zr_less (L' := [some (.ref 2), some (.int a1), some (.long x2), none, some (.int x4), none]) ⟨rfl, ⟨rfl, ⟨rfl, ⟨rfl, trivial⟩⟩⟩⟩ ?_
    exact s_Judge_kindsOfSets_L50  hR5  hJ
  · have hJ := hJ.2 c
    refine zq_lload_n d_Judge_kindsOfSets_36 rfl rfl ?_
    refine zq_lconst (v := 1) d_Judge_kindsOfSets_37 zk_l1 ?_
    refine zq_aload_n d_Judge_kindsOfSets_38 rfl rfl ?_
    refine zm_getR fg_Judge_22 d_Judge_kindsOfSets_39 zs_Judge rfl ?_
    refine zq_iload d_Judge_kindsOfSets_42 rfl ?_
    obtain ⟨hb, hJ⟩ := hJ
    refine zm_ald d_Judge_kindsOfSets_44 (rfl : zm_sh[8]? = some (.inl (0, 4, .inl (fun _ => 0)))) hb ?_
    refine zq_iconst (v := 4) d_Judge_kindsOfSets_45 zk_i4 ?_
    refine zq_idiv d_Judge_kindsOfSets_46 (by decide) ?_
    refine zq_lshl d_Judge_kindsOfSets_47 ?_
    refine zq_lor d_Judge_kindsOfSets_48 ?_
    refine zr_topl (fun y1 hy1 => ?_)
    have hJ := hJ y1 hy1
    refine zr_lstore_n (L' := [some (.ref 2), some (.int a1), some (.long y1), none, some (.int x4), some (.int t0)]) d_Judge_kindsOfSets_49 rfl (Nat.le_of_ble_eq_true rfl) rfl ?_
    refine zr_less (L' := [some (.ref 2), some (.int a1), some (.long y1), none, some (.int x4), none]) ⟨rfl, ⟨rfl, ⟨rfl, ⟨rfl, trivial⟩⟩⟩⟩ ?_
    exact s_Judge_kindsOfSets_L50  hR5  hJ
set_option maxHeartbeats 400000 in
theorem s_Judge_kindsOfSets_L5 {g : zk_T} {a1 : Int32} {K : Int64 → zm → Prop} : ∀ (n : Nat) {x2 : Int64} {x4 : Int32} {m : zm}, j_Judge_kindsOfSets_L5 a1  K n x2 x4 m → zq_V (zk_g g) ("RiichiTable$Judge", prog_2_method_11_code, 6, (some .long), false, zq_rm 0 0 0) 0 0 5 [some (.ref 2), some (.int a1), some (.long x2), none, some (.int x4), none] [] (zm_hp m) (zm_QL K) := by
  intro n
  induction n with
  | zero =>
    intro x2 x4 m hJ
    exact False.elim hJ
  | succ n ih =>
    intro x2 x4 m hJ
    rw [j_Judge_kindsOfSets_L5] at hJ
    refine zq_iload d_Judge_kindsOfSets_5 rfl ?_
    refine zq_iconst (v := 4) d_Judge_kindsOfSets_7 zk_i4 ?_
    refine zq_icmp_ge (tgt := 56) d_Judge_kindsOfSets_8 (by decide) (fun c => ?_) (fun c => ?_)
    · have hJ := hJ.1 c
      refine zq_lload_n d_Judge_kindsOfSets_56 rfl rfl ?_
      exact zq_lret d_Judge_kindsOfSets_57 rfl (Nat.le_refl _) (Nat.le_refl _) ⟨_, _, rfl, rfl, hJ⟩
    · have hJ := hJ.2 c
      refine zq_aload_n d_Judge_kindsOfSets_11 rfl rfl ?_
      refine zm_getR fg_Judge_22 d_Judge_kindsOfSets_12 zs_Judge rfl ?_
      refine zq_iload d_Judge_kindsOfSets_15 rfl ?_
      obtain ⟨hb, hJ⟩ := hJ
      refine zm_ald d_Judge_kindsOfSets_17 (rfl : zm_sh[8]? = some (.inl (0, 4, .inl (fun _ => 0)))) hb ?_
      refine zq_iconst (v := 4) d_Judge_kindsOfSets_18 zk_i4 ?_
      refine zq_irem d_Judge_kindsOfSets_19 (by decide) ?_
      refine zq_if_ne (tgt := 27) d_Judge_kindsOfSets_20 (by decide) (fun c => ?_) (fun c => ?_)
      · have hJ := hJ.1 c
        refine zq_iconst (v := 0) d_Judge_kindsOfSets_27 zk_i0 ?_
        refine zr_less (L' := [some (.ref 2), some (.int a1), some (.long x2), none, some (.int x4), none]) ⟨rfl, ⟨rfl, ⟨rfl, ⟨rfl, trivial⟩⟩⟩⟩ ?_
        exact s_Judge_kindsOfSets_L28  ih  hJ
      · have hJ := hJ.2 c
        refine zq_iconst (v := 1) d_Judge_kindsOfSets_23 zk_i1 ?_
        refine zq_goto (tgt := 28) d_Judge_kindsOfSets_24 (by decide) ?_
        refine zr_less (L' := [some (.ref 2), some (.int a1), some (.long x2), none, some (.int x4), none]) ⟨rfl, ⟨rfl, ⟨rfl, ⟨rfl, trivial⟩⟩⟩⟩ ?_
        exact s_Judge_kindsOfSets_L28  ih  hJ
set_option maxHeartbeats 400000 in
theorem s_Judge_kindsOfSets {g : zk_T} {a1 : Int32} {K : Int64 → zm → Prop} {m : zm} (hJ : j_Judge_kindsOfSets a1 m K) : zq_Mt (zk_g g) y_Judge_kindsOfSets 0 0 0 [.ref 2, .int a1] (zm_hp m) (zm_QL K) := by
  unfold j_Judge_kindsOfSets at hJ
  refine zq_meth (ini := false) rfl (fun h => by cases h) (Nat.le_of_ble_eq_true rfl) ?_
  refine zr_L (F := ("RiichiTable$Judge", prog_2_method_11_code, 6, (some .long), false, zq_rm 0 0 0)) (L' := [some (.ref 2), some (.int a1), none, none, none, none]) rfl ?_
  refine zq_lconst (v := 0) d_Judge_kindsOfSets_0 zk_l0 ?_
  refine zr_lstore_n (L' := [some (.ref 2), some (.int a1), some (.long 0), none, none, none]) d_Judge_kindsOfSets_1 rfl (Nat.le_of_ble_eq_true rfl) rfl ?_
  refine zq_iconst (v := 0) d_Judge_kindsOfSets_2 zk_i0 ?_
  refine zr_istore (L' := [some (.ref 2), some (.int a1), some (.long 0), none, some (.int 0), none]) d_Judge_kindsOfSets_3 (Nat.le_of_ble_eq_true rfl) rfl ?_
  refine zr_less (L' := [some (.ref 2), some (.int a1), some (.long 0), none, some (.int 0), none]) ⟨rfl, ⟨rfl, ⟨rfl, ⟨rfl, trivial⟩⟩⟩⟩ ?_
  obtain ⟨n5, hJ⟩ := hJ
  exact s_Judge_kindsOfSets_L5   n5  hJ
set_option maxHeartbeats 400000 in
theorem s_Judge_yakuOfEnds_L31 {g : zk_T} {a1 : Int64} {K : Int64 → zm → Prop} {m : zm} (hJ : j_Judge_yakuOfEnds_L31 a1  K  m) : zq_V (zk_g g) ("RiichiTable$Judge", prog_2_method_17_code, 7, (some .long), false, zq_rm 1 0 0) 0 0 31 [some (.ref 2), some (.long a1), none, none, none, none, none] [] (zm_hp m) (zm_QL K) := by
  unfold j_Judge_yakuOfEnds_L31 at hJ
  refine zq_lconst (v := 0) d_Judge_yakuOfEnds_31 zk_l0 ?_
  exact zq_lret d_Judge_yakuOfEnds_32 rfl (Nat.le_refl _) (Nat.le_refl _) ⟨_, _, rfl, rfl, hJ⟩
set_option maxHeartbeats 400000 in
theorem s_Judge_yakuOfEnds_L113 {g : zk_T} {a1 : Int64} {R36 : Int32 → Int32 → zm → Prop} {K : Int64 → zm → Prop} (hR36 : ∀ {x3 : Int32} {x4 : Int32} {m : zm}, R36 x3 x4 m → zq_V (zk_g g) ("RiichiTable$Judge", prog_2_method_17_code, 7, (some .long), false, zq_rm 1 0 0) 0 0 36 [some (.ref 2), some (.long a1), none, some (.int x3), some (.int x4), none, none] [] (zm_hp m) (zm_QL K)) {x4 : Int32} {t0 : Int32} {m : zm} (hJ : j_Judge_yakuOfEnds_L113 a1 R36 K x4 t0 m) : zq_V (zk_g g) ("RiichiTable$Judge", prog_2_method_17_code, 7, (some .long), false, zq_rm 1 0 0) 0 0 113 [some (.ref 2), some (.long a1), none, none, some (.int x4), none, none] [.int t0] (zm_hp m) (zm_QL K) := by
  unfold j_Judge_yakuOfEnds_L113 at hJ
  refine zr_istore_n (L' := [some (.ref 2), some (.long a1), none, some (.int t0), some (.int x4), none, none]) d_Judge_yakuOfEnds_113 rfl (Nat.le_of_ble_eq_true rfl) rfl ?_
  refine zr_iinc (d' := 1) d_Judge_yakuOfEnds_114 zk_i1 rfl (Nat.le_of_ble_eq_true rfl) (fun y6 hy6 => ?_)
  have hJ := hJ y6 hy6
  refine zr_L (L' := [some (.ref 2), some (.long a1), none, some (.int t0), some (.int y6), none, none]) rfl ?_
  refine zq_goto (tgt := 36) d_Judge_yakuOfEnds_117 (by decide) ?_
  refine zr_less (L' := [some (.ref 2), some (.long a1), none, some (.int t0), some (.int y6), none, none]) ⟨rfl, ⟨rfl, ⟨rfl, ⟨rfl, trivial⟩⟩⟩⟩ ?_
  exact hR36  hJ
set_option maxHeartbeats 400000 in
theorem s_Judge_yakuOfEnds_L108 {g : zk_T} {a1 : Int64} {R36 : Int32 → Int32 → zm → Prop} {K : Int64 → zm → Prop} (hR36 : ∀ {x3 : Int32} {x4 : Int32} {m : zm}, R36 x3 x4 m → zq_V (zk_g g) ("RiichiTable$Judge", prog_2_method_17_code, 7, (some .long), false, zq_rm 1 0 0) 0 0 36 [some (.ref 2), some (.long a1), none, some (.int x3), some (.int x4), none, none] [] (zm_hp m) (zm_QL K)) {x4 : Int32} {m : zm} (hJ : j_Judge_yakuOfEnds_L108 a1 R36 K x4 m) : zq_V (zk_g g) ("RiichiTable$Judge", prog_2_method_17_code, 7, (some .long), false, zq_rm 1 0 0) 0 0 108 [some (.ref 2), some (.long a1), none, none, some (.int x4), none, none] [] (zm_hp m) (zm_QL K) := by
  unfold j_Judge_yakuOfEnds_L108 at hJ
  refine zq_iconst (v := 1) d_Judge_yakuOfEnds_108 zk_i1 ?_
  refine zq_goto (tgt := 113) d_Judge_yakuOfEnds_109 (by decide) ?_
  refine zr_less (L' := [some (.ref 2), some (.long a1), none, none, some (.int x4), none, none]) ⟨rfl, ⟨rfl, ⟨rfl, trivial⟩⟩⟩ ?_
  exact s_Judge_yakuOfEnds_L113  hR36  hJ
set_option maxHeartbeats 400000 in
theorem s_Judge_yakuOfEnds_L97 {g : zk_T} {a1 : Int64} {R36 : Int32 → Int32 → zm → Prop} {K : Int64 → zm → Prop} (hR36 : ∀ {x3 : Int32} {x4 : Int32} {m : zm}, R36 x3 x4 m → zq_V (zk_g g) ("RiichiTable$Judge", prog_2_method_17_code, 7, (some .long), false, zq_rm 1 0 0) 0 0 36 [some (.ref 2), some (.long a1), none, some (.int x3), some (.int x4), none, none] [] (zm_hp m) (zm_QL K)) {x3 : Int32} {x4 : Int32} {x5 : Int32} {m : zm} (hJ : j_Judge_yakuOfEnds_L97 a1 R36 K x3 x4 x5 m) : zq_V (zk_g g) ("RiichiTable$Judge", prog_2_method_17_code, 7, (some .long), false, zq_rm 1 0 0) 0 0 97 [some (.ref 2), some (.long a1), none, some (.int x3), some (.int x4), some (.int x5), none] [] (zm_hp m) (zm_QL K) := by
  unfold j_Judge_yakuOfEnds_L97 at hJ
  refine zq_iload_n d_Judge_yakuOfEnds_97 rfl rfl ?_
  refine zq_if_ne (tgt := 108) d_Judge_yakuOfEnds_98 (by decide) (fun c => ?_) (fun c => ?_)
  · have hJ := hJ.1 c
    refine zr_less (L' := [some (.ref 2), some (.long a1), none, none, some (.int x4), none, none]) ⟨rfl, ⟨rfl, ⟨rfl, trivial⟩⟩⟩ ?_
    exact s_Judge_yakuOfEnds_L108  hR36  hJ
  · have hJ := hJ.2 c
    refine zq_iload d_Judge_yakuOfEnds_101 rfl ?_
    refine zq_bipush (v := 27) d_Judge_yakuOfEnds_103 zk_b27 ?_
    refine zq_icmp_lt (tgt := 112) d_Judge_yakuOfEnds_105 (by decide) (fun c => ?_) (fun c => ?_)
    · have hJ := hJ.1 c
      refine zq_iconst (v := 0) d_Judge_yakuOfEnds_112 zk_i0 ?_
      refine zr_less (L' := [some (.ref 2), some (.long a1), none, none, some (.int x4), none, none]) ⟨rfl, ⟨rfl, ⟨rfl, trivial⟩⟩⟩ ?_
      exact s_Judge_yakuOfEnds_L113  hR36  hJ
    · have hJ := hJ.2 c
      refine zr_less (L' := [some (.ref 2), some (.long a1), none, none, some (.int x4), none, none]) ⟨rfl, ⟨rfl, ⟨rfl, trivial⟩⟩⟩ ?_
      exact s_Judge_yakuOfEnds_L108  hR36  hJ
set_option maxHeartbeats 400000 in
theorem s_Judge_yakuOfEnds_L80 {g : zk_T} {a1 : Int64} {R36 : Int32 → Int32 → zm → Prop} {K : Int64 → zm → Prop} (hR36 : ∀ {x3 : Int32} {x4 : Int32} {m : zm}, R36 x3 x4 m → zq_V (zk_g g) ("RiichiTable$Judge", prog_2_method_17_code, 7, (some .long), false, zq_rm 1 0 0) 0 0 36 [some (.ref 2), some (.long a1), none, some (.int x3), some (.int x4), none, none] [] (zm_hp m) (zm_QL K)) {x3 : Int32} {x4 : Int32} {x5 : Int32} {t0 : Int32} {m : zm} (hJ : j_Judge_yakuOfEnds_L80 a1 R36 K x3 x4 x5 t0 m) : zq_V (zk_g g) ("RiichiTable$Judge", prog_2_method_17_code, 7, (some .long), false, zq_rm 1 0 0) 0 0 80 [some (.ref 2), some (.long a1), none, some (.int x3), some (.int x4), some (.int x5), none] [.int t0] (zm_hp m) (zm_QL K) := by
  unfold j_Judge_yakuOfEnds_L80 at hJ
  refine zr_istore (L' := [some (.ref 2), some (.long a1), none, some (.int x3), some (.int x4), some (.int x5), some (.int t0)]) d_Judge_yakuOfEnds_80 (Nat.le_of_ble_eq_true rfl) rfl ?_
  refine zq_iload d_Judge_yakuOfEnds_82 rfl ?_
  refine zr_csI (as := [.int x5]) (st := []) d_Judge_yakuOfEnds_84 cc_Judge_211 cs_Shape_isOuter (s_Shape_isOuter  hJ) rfl ⟨Nat.le_of_ble_eq_true rfl, Nat.le_of_ble_eq_true rfl⟩ (Nat.le_of_ble_eq_true rfl) ⟨Nat.le_refl _, Nat.le_refl _⟩ rfl (fun r5 m4 hJ => ?_)
  refine zq_if_ne (tgt := 97) d_Judge_yakuOfEnds_87 (by decide) (fun c => ?_) (fun c => ?_)
  · have hJ := hJ.1 c
    refine zr_less (L' := [some (.ref 2), some (.long a1), none, some (.int x3), some (.int x4), some (.int x5), none]) ⟨rfl, ⟨rfl, ⟨rfl, ⟨rfl, ⟨rfl, trivial⟩⟩⟩⟩⟩ ?_
    exact s_Judge_yakuOfEnds_L97  hR36  hJ
  · have hJ := hJ.2 c
    refine zq_iload d_Judge_yakuOfEnds_90 rfl ?_
    refine zq_if_ne (tgt := 97) d_Judge_yakuOfEnds_92 (by decide) (fun c => ?_) (fun c => ?_)
    · have hJ := hJ.1 c
      refine zr_less (L' := [some (.ref 2), some (.long a1), none, some (.int x3), some (.int x4), some (.int x5), none]) ⟨rfl, ⟨rfl, ⟨rfl, ⟨rfl, ⟨rfl, trivial⟩⟩⟩⟩⟩ ?_
      exact s_Judge_yakuOfEnds_L97  hR36  hJ
    · have hJ := hJ.2 c
      refine zq_lconst (v := 0) d_Judge_yakuOfEnds_95 zk_l0 ?_
      exact zq_lret d_Judge_yakuOfEnds_96 rfl (Nat.le_refl _) (Nat.le_refl _) ⟨_, _, rfl, rfl, hJ⟩
set_option maxHeartbeats 400000 in
theorem s_Judge_yakuOfEnds_L79 {g : zk_T} {a1 : Int64} {R36 : Int32 → Int32 → zm → Prop} {K : Int64 → zm → Prop} (hR36 : ∀ {x3 : Int32} {x4 : Int32} {m : zm}, R36 x3 x4 m → zq_V (zk_g g) ("RiichiTable$Judge", prog_2_method_17_code, 7, (some .long), false, zq_rm 1 0 0) 0 0 36 [some (.ref 2), some (.long a1), none, some (.int x3), some (.int x4), none, none] [] (zm_hp m) (zm_QL K)) {x3 : Int32} {x4 : Int32} {x5 : Int32} {m : zm} (hJ : j_Judge_yakuOfEnds_L79 a1 R36 K x3 x4 x5 m) : zq_V (zk_g g) ("RiichiTable$Judge", prog_2_method_17_code, 7, (some .long), false, zq_rm 1 0 0) 0 0 79 [some (.ref 2), some (.long a1), none, some (.int x3), some (.int x4), some (.int x5), none] [] (zm_hp m) (zm_QL K) := by
  unfold j_Judge_yakuOfEnds_L79 at hJ
  refine zq_iconst (v := 0) d_Judge_yakuOfEnds_79 zk_i0 ?_
  refine zr_less (L' := [some (.ref 2), some (.long a1), none, some (.int x3), some (.int x4), some (.int x5), none]) ⟨rfl, ⟨rfl, ⟨rfl, ⟨rfl, ⟨rfl, trivial⟩⟩⟩⟩⟩ ?_
  exact s_Judge_yakuOfEnds_L80  hR36  hJ
set_option maxHeartbeats 400000 in
theorem s_Judge_yakuOfEnds_L132 {g : zk_T} {a1 : Int64} {K : Int64 → zm → Prop} {t0 : Int32} {t1 : Int64} {m : zm} (hJ : j_Judge_yakuOfEnds_L132 a1  K t0 t1 m) : zq_V (zk_g g) ("RiichiTable$Judge", prog_2_method_17_code, 7, (some .long), false, zq_rm 1 0 0) 0 0 132 [some (.ref 2), some (.long a1), none, none, none, none, none] [.int t0, .long t1] (zm_hp m) (zm_QL K) := by
  unfold j_Judge_yakuOfEnds_L132 at hJ
  refine zq_lshl d_Judge_yakuOfEnds_132 ?_
  exact zq_lret d_Judge_yakuOfEnds_133 rfl (Nat.le_refl _) (Nat.le_refl _) ⟨_, _, rfl, rfl, hJ⟩
set_option maxHeartbeats 400000 in
theorem s_Judge_yakuOfEnds_L36 {g : zk_T} {a1 : Int64} {K : Int64 → zm → Prop} : ∀ (n : Nat) {x3 : Int32} {x4 : Int32} {m : zm}, j_Judge_yakuOfEnds_L36 a1  K n x3 x4 m → zq_V (zk_g g) ("RiichiTable$Judge", prog_2_method_17_code, 7, (some .long), false, zq_rm 1 0 0) 0 0 36 [some (.ref 2), some (.long a1), none, some (.int x3), some (.int x4), none, none] [] (zm_hp m) (zm_QL K) := by
  intro n
  induction n with
  | zero =>
    intro x3 x4 m hJ
    exact False.elim hJ
  | succ n ih =>
    intro x3 x4 m hJ
    rw [j_Judge_yakuOfEnds_L36] at hJ
    refine zq_iload d_Judge_yakuOfEnds_36 rfl ?_
    refine zq_iconst (v := 4) d_Judge_yakuOfEnds_38 zk_i4 ?_
    refine zq_icmp_ge (tgt := 120) d_Judge_yakuOfEnds_39 (by decide) (fun c => ?_) (fun c => ?_)
    · have hJ := hJ.1 c
      refine zq_lconst (v := 1) d_Judge_yakuOfEnds_120 zk_l1 ?_
      refine zq_iload_n d_Judge_yakuOfEnds_121 rfl rfl ?_
      refine zq_if_eq (tgt := 130) d_Judge_yakuOfEnds_122 (by decide) (fun c => ?_) (fun c => ?_)
      · have hJ := hJ.1 c
        refine zq_bipush (v := 18) d_Judge_yakuOfEnds_130 zk_b18 ?_
        refine zr_less (L' := [some (.ref 2), some (.long a1), none, none, none, none, none]) ⟨rfl, ⟨rfl, trivial⟩⟩ ?_
        exact s_Judge_yakuOfEnds_L132    hJ
      · have hJ := hJ.2 c
        refine zq_bipush (v := 17) d_Judge_yakuOfEnds_125 zk_b17 ?_
        refine zq_goto (tgt := 132) d_Judge_yakuOfEnds_127 (by decide) ?_
        refine zr_less (L' := [some (.ref 2), some (.long a1), none, none, none, none, none]) ⟨rfl, ⟨rfl, trivial⟩⟩ ?_
        exact s_Judge_yakuOfEnds_L132    hJ
    · have hJ := hJ.2 c
      refine zq_aload_n d_Judge_yakuOfEnds_42 rfl rfl ?_
      refine zm_getR fg_Judge_22 d_Judge_yakuOfEnds_43 zs_Judge rfl ?_
      refine zq_iload d_Judge_yakuOfEnds_46 rfl ?_
      obtain ⟨hb, hJ⟩ := hJ
      refine zm_ald d_Judge_yakuOfEnds_48 (rfl : zm_sh[8]? = some (.inl (0, 4, .inl (fun _ => 0)))) hb ?_
      refine zq_iconst (v := 4) d_Judge_yakuOfEnds_49 zk_i4 ?_
      refine zq_idiv d_Judge_yakuOfEnds_50 (by decide) ?_
      refine zr_topi (fun y3 hy3 => ?_)
      have hJ := hJ y3 hy3
      refine zr_istore (L' := [some (.ref 2), some (.long a1), none, some (.int x3), some (.int x4), some (.int y3), none]) d_Judge_yakuOfEnds_51 (Nat.le_of_ble_eq_true rfl) rfl ?_
      refine zq_aload_n d_Judge_yakuOfEnds_53 rfl rfl ?_
      refine zm_getR fg_Judge_22 d_Judge_yakuOfEnds_54 zs_Judge rfl ?_
      refine zq_iload d_Judge_yakuOfEnds_57 rfl ?_
      obtain ⟨hb, hJ⟩ := hJ
      refine zm_ald d_Judge_yakuOfEnds_59 (rfl : zm_sh[8]? = some (.inl (0, 4, .inl (fun _ => 0)))) hb ?_
      refine zq_iconst (v := 4) d_Judge_yakuOfEnds_60 zk_i4 ?_
      refine zq_irem d_Judge_yakuOfEnds_61 (by decide) ?_
      refine zq_if_ne (tgt := 79) d_Judge_yakuOfEnds_62 (by decide) (fun c => ?_) (fun c => ?_)
      · have hJ := hJ.1 c
        refine zr_less (L' := [some (.ref 2), some (.long a1), none, some (.int x3), some (.int x4), some (.int y3), none]) ⟨rfl, ⟨rfl, ⟨rfl, ⟨rfl, ⟨rfl, trivial⟩⟩⟩⟩⟩ ?_
        exact s_Judge_yakuOfEnds_L79  ih  hJ
      · have hJ := hJ.2 c
        refine zq_iload d_Judge_yakuOfEnds_65 rfl ?_
        refine zq_bipush (v := 9) d_Judge_yakuOfEnds_67 zk_b9 ?_
        refine zq_irem d_Judge_yakuOfEnds_69 (by decide) ?_
        refine zq_bipush (v := 6) d_Judge_yakuOfEnds_70 zk_b6 ?_
        refine zq_icmp_ne (tgt := 79) d_Judge_yakuOfEnds_72 (by decide) (fun c => ?_) (fun c => ?_)
        · have hJ := hJ.1 c
          refine zr_less (L' := [some (.ref 2), some (.long a1), none, some (.int x3), some (.int x4), some (.int y3), none]) ⟨rfl, ⟨rfl, ⟨rfl, ⟨rfl, ⟨rfl, trivial⟩⟩⟩⟩⟩ ?_
          exact s_Judge_yakuOfEnds_L79  ih  hJ
        · have hJ := hJ.2 c
          refine zq_iconst (v := 1) d_Judge_yakuOfEnds_75 zk_i1 ?_
          refine zq_goto (tgt := 80) d_Judge_yakuOfEnds_76 (by decide) ?_
          refine zr_less (L' := [some (.ref 2), some (.long a1), none, some (.int x3), some (.int x4), some (.int y3), none]) ⟨rfl, ⟨rfl, ⟨rfl, ⟨rfl, ⟨rfl, trivial⟩⟩⟩⟩⟩ ?_
          exact s_Judge_yakuOfEnds_L80  ih  hJ
set_option maxHeartbeats 400000 in
theorem s_Judge_yakuOfEnds_L14 {g : zk_T} {a1 : Int64} {K : Int64 → zm → Prop} {t0 : Int32} {m : zm} (hJ : j_Judge_yakuOfEnds_L14 a1  K t0 m) : zq_V (zk_g g) ("RiichiTable$Judge", prog_2_method_17_code, 7, (some .long), false, zq_rm 1 0 0) 0 0 14 [some (.ref 2), some (.long a1), none, none, none, none, none] [.int t0] (zm_hp m) (zm_QL K) := by
  unfold j_Judge_yakuOfEnds_L14 at hJ
  refine zr_istore_n (L' := [some (.ref 2), some (.long a1), none, some (.int t0), none, none, none]) d_Judge_yakuOfEnds_14 rfl (Nat.le_of_ble_eq_true rfl) rfl ?_
  refine zq_lload_n d_Judge_yakuOfEnds_15 rfl rfl ?_
  refine zq_lconst (v := 0) d_Judge_yakuOfEnds_16 zk_l0 ?_
  refine zq_lcmp d_Judge_yakuOfEnds_17 ?_
  refine zq_if_eq (tgt := 31) d_Judge_yakuOfEnds_18 (by decide) (fun c => ?_) (fun c => ?_)
  · have hJ := hJ.1 c
    refine zr_less (L' := [some (.ref 2), some (.long a1), none, none, none, none, none]) ⟨rfl, ⟨rfl, trivial⟩⟩ ?_
    exact s_Judge_yakuOfEnds_L31    hJ
  · have hJ := hJ.2 c
    refine zq_aload_n d_Judge_yakuOfEnds_21 rfl rfl ?_
    refine zm_getI fg_Judge_110 d_Judge_yakuOfEnds_22 zs_Judge rfl ?_
    refine zr_csI (as := [.int (m.1 2 3)]) (st := []) d_Judge_yakuOfEnds_25 cc_Judge_211 cs_Shape_isOuter (s_Shape_isOuter  hJ) rfl ⟨Nat.le_of_ble_eq_true rfl, Nat.le_of_ble_eq_true rfl⟩ (Nat.le_of_ble_eq_true rfl) ⟨Nat.le_refl _, Nat.le_refl _⟩ rfl (fun r2 m1 hJ => ?_)
    refine zq_if_ne (tgt := 33) d_Judge_yakuOfEnds_28 (by decide) (fun c => ?_) (fun c => ?_)
    · have hJ := hJ.1 c
      refine zq_iconst (v := 0) d_Judge_yakuOfEnds_33 zk_i0 ?_
      refine zr_istore (L' := [some (.ref 2), some (.long a1), none, some (.int t0), some (.int 0), none, none]) d_Judge_yakuOfEnds_34 (Nat.le_of_ble_eq_true rfl) rfl ?_
      refine zr_less (L' := [some (.ref 2), some (.long a1), none, some (.int t0), some (.int 0), none, none]) ⟨rfl, ⟨rfl, ⟨rfl, ⟨rfl, trivial⟩⟩⟩⟩ ?_
      obtain ⟨n36, hJ⟩ := hJ
      exact s_Judge_yakuOfEnds_L36   n36  hJ
    · have hJ := hJ.2 c
      refine zr_less (L' := [some (.ref 2), some (.long a1), none, none, none, none, none]) ⟨rfl, ⟨rfl, trivial⟩⟩ ?_
      exact s_Judge_yakuOfEnds_L31    hJ
set_option maxHeartbeats 400000 in
theorem s_Judge_yakuOfEnds {g : zk_T} {a1 : Int64} {K : Int64 → zm → Prop} {m : zm} (hJ : j_Judge_yakuOfEnds a1 m K) : zq_Mt (zk_g g) y_Judge_yakuOfEnds 1 0 0 [.ref 2, .long a1] (zm_hp m) (zm_QL K) := by
  unfold j_Judge_yakuOfEnds at hJ
  refine zq_meth (ini := false) rfl (fun h => by cases h) (Nat.le_of_ble_eq_true rfl) ?_
  refine zr_L (F := ("RiichiTable$Judge", prog_2_method_17_code, 7, (some .long), false, zq_rm 1 0 0)) (L' := [some (.ref 2), some (.long a1), none, none, none, none, none]) rfl ?_
  refine zq_aload_n d_Judge_yakuOfEnds_0 rfl rfl ?_
  refine zm_getI fg_Judge_110 d_Judge_yakuOfEnds_1 zs_Judge rfl ?_
  refine zq_bipush (v := 27) d_Judge_yakuOfEnds_4 zk_b27 ?_
  refine zq_icmp_lt (tgt := 13) d_Judge_yakuOfEnds_6 (by decide) (fun c => ?_) (fun c => ?_)
  · have hJ := hJ.1 c
    refine zq_iconst (v := 0) d_Judge_yakuOfEnds_13 zk_i0 ?_
    refine zr_less (L' := [some (.ref 2), some (.long a1), none, none, none, none, none]) ⟨rfl, ⟨rfl, trivial⟩⟩ ?_
    exact s_Judge_yakuOfEnds_L14    hJ
  · have hJ := hJ.2 c
    refine zq_iconst (v := 1) d_Judge_yakuOfEnds_9 zk_i1 ?_
    refine zq_goto (tgt := 14) d_Judge_yakuOfEnds_10 (by decide) ?_
    refine zr_less (L' := [some (.ref 2), some (.long a1), none, none, none, none, none]) ⟨rfl, ⟨rfl, trivial⟩⟩ ?_
    exact s_Judge_yakuOfEnds_L14    hJ
set_option maxHeartbeats 400000 in
theorem s_Judge_bitIf_L11 {g : zk_T} {a0 : Int32} {a1 : Int32} {K : Int64 → zm → Prop} {t0 : Int64} {m : zm} (hJ : j_Judge_bitIf_L11 a0 a1  K t0 m) : zq_V (zk_g g) ("RiichiTable$Judge", prog_2_method_9_code, 2, (some .long), false, zq_rm 0 0 0) 0 0 11 [some (.int a0), some (.int a1)] [.long t0] (zm_hp m) (zm_QL K) := by
  unfold j_Judge_bitIf_L11 at hJ
  exact zq_lret d_Judge_bitIf_11 rfl (Nat.le_refl _) (Nat.le_refl _) ⟨_, _, rfl, rfl, hJ⟩
set_option maxHeartbeats 400000 in
theorem s_Judge_bitIf {g : zk_T} {a0 : Int32} {a1 : Int32} {K : Int64 → zm → Prop} {m : zm} (hJ : j_Judge_bitIf a0 a1 m K) : zq_Mt (zk_g g) y_Judge_bitIf 0 0 0 [.int a0, .int a1] (zm_hp m) (zm_QL K) := by
  unfold j_Judge_bitIf at hJ
  refine zq_meth (ini := false) rfl (fun h => by cases h) (Nat.le_of_ble_eq_true rfl) ?_
  refine zr_L (F := ("RiichiTable$Judge", prog_2_method_9_code, 2, (some .long), false, zq_rm 0 0 0)) (L' := [some (.int a0), some (.int a1)]) rfl ?_
  refine zq_iload_n d_Judge_bitIf_0 rfl rfl ?_
  refine zq_if_eq (tgt := 10) d_Judge_bitIf_1 (by decide) (fun c => ?_) (fun c => ?_)
  · have hJ := hJ.1 c
    refine zq_lconst (v := 0) d_Judge_bitIf_10 zk_l0 ?_
    refine zr_less (L' := [some (.int a0), some (.int a1)]) ⟨rfl, ⟨rfl, trivial⟩⟩ ?_
    exact s_Judge_bitIf_L11    hJ
  · have hJ := hJ.2 c
    refine zq_lconst (v := 1) d_Judge_bitIf_4 zk_l1 ?_
    refine zq_iload_n d_Judge_bitIf_5 rfl rfl ?_
    refine zq_lshl d_Judge_bitIf_6 ?_
    refine zq_goto (tgt := 11) d_Judge_bitIf_7 (by decide) ?_
    refine zr_less (L' := [some (.int a0), some (.int a1)]) ⟨rfl, ⟨rfl, trivial⟩⟩ ?_
    exact s_Judge_bitIf_L11    hJ
set_option maxHeartbeats 400000 in
theorem s_Judge_countPairsOfRuns_L42 {g : zk_T} {R4 : Int32 → Int32 → zm → Prop} {R14 : Int32 → Int32 → Int32 → Int32 → zm → Prop} {K : Int32 → zm → Prop} (hR4 : ∀ {x1 : Int32} {x2 : Int32} {m : zm}, R4 x1 x2 m → zq_V (zk_g g) ("RiichiTable$Judge", prog_2_method_16_code, 5, (some .int), false, zq_rm 0 0 0) 0 0 4 [some (.ref 2), some (.int x1), some (.int x2), none, none] [] (zm_hp m) (zm_QI K)) (hR14 : ∀ {x1 : Int32} {x2 : Int32} {x3 : Int32} {x4 : Int32} {m : zm}, R14 x1 x2 x3 x4 m → zq_V (zk_g g) ("RiichiTable$Judge", prog_2_method_16_code, 5, (some .int), false, zq_rm 0 0 0) 0 0 14 [some (.ref 2), some (.int x1), some (.int x2), some (.int x3), some (.int x4)] [] (zm_hp m) (zm_QI K)) {x1 : Int32} {x2 : Int32} {x4 : Int32} {t0 : Int32} {t1 : Int32} {m : zm} (hJ : j_Judge_countPairsOfRuns_L42  R4 R14 K x1 x2 x4 t0 t1 m) : zq_V (zk_g g) ("RiichiTable$Judge", prog_2_method_16_code, 5, (some .int), false, zq_rm 0 0 0) 0 0 42 [some (.ref 2), some (.int x1), some (.int x2), none, some (.int x4)] [.int t0, .int t1] (zm_hp m) (zm_QI K) := by
  unfold j_Judge_countPairsOfRuns_L42 at hJ
  refine zq_iadd d_Judge_countPairsOfRuns_42 ?_
  refine zr_topi (fun y1 hy1 => ?_)
  have hJ := hJ y1 hy1
  refine zr_istore_n (L' := [some (.ref 2), some (.int x1), some (.int x2), some (.int y1), some (.int x4)]) d_Judge_countPairsOfRuns_43 rfl (Nat.le_of_ble_eq_true rfl) rfl ?_
  refine zr_iinc (d' := 1) d_Judge_countPairsOfRuns_44 zk_i1 rfl (Nat.le_of_ble_eq_true rfl) (fun y2 hy2 => ?_)
  have hJ := hJ y2 hy2
  refine zr_L (L' := [some (.ref 2), some (.int x1), some (.int x2), some (.int y1), some (.int y2)]) rfl ?_
  refine zq_goto (tgt := 14) d_Judge_countPairsOfRuns_47 (by decide) ?_
  refine zr_less (L' := [some (.ref 2), some (.int x1), some (.int x2), some (.int y1), some (.int y2)]) ⟨rfl, ⟨rfl, ⟨rfl, ⟨rfl, ⟨rfl, trivial⟩⟩⟩⟩⟩ ?_
  exact hR14  hJ
set_option maxHeartbeats 400000 in
theorem s_Judge_countPairsOfRuns_L73 {g : zk_T} {R4 : Int32 → Int32 → zm → Prop} {K : Int32 → zm → Prop} (hR4 : ∀ {x1 : Int32} {x2 : Int32} {m : zm}, R4 x1 x2 m → zq_V (zk_g g) ("RiichiTable$Judge", prog_2_method_16_code, 5, (some .int), false, zq_rm 0 0 0) 0 0 4 [some (.ref 2), some (.int x1), some (.int x2), none, none] [] (zm_hp m) (zm_QI K)) {x2 : Int32} {t0 : Int32} {t1 : Int32} {m : zm} (hJ : j_Judge_countPairsOfRuns_L73  R4 K x2 t0 t1 m) : zq_V (zk_g g) ("RiichiTable$Judge", prog_2_method_16_code, 5, (some .int), false, zq_rm 0 0 0) 0 0 73 [some (.ref 2), none, some (.int x2), none, none] [.int t0, .int t1] (zm_hp m) (zm_QI K) := by
  unfold j_Judge_countPairsOfRuns_L73 at hJ
  refine zq_iadd d_Judge_countPairsOfRuns_73 ?_
  refine zr_topi (fun y3 hy3 => ?_)
  have hJ := hJ y3 hy3
  refine zr_istore_n (L' := [some (.ref 2), some (.int y3), some (.int x2), none, none]) d_Judge_countPairsOfRuns_74 rfl (Nat.le_of_ble_eq_true rfl) rfl ?_
  refine zr_iinc (d' := 1) d_Judge_countPairsOfRuns_75 zk_i1 rfl (Nat.le_of_ble_eq_true rfl) (fun y4 hy4 => ?_)
  have hJ := hJ y4 hy4
  refine zr_L (L' := [some (.ref 2), some (.int y3), some (.int y4), none, none]) rfl ?_
  refine zq_goto (tgt := 4) d_Judge_countPairsOfRuns_78 (by decide) ?_
  refine zr_less (L' := [some (.ref 2), some (.int y3), some (.int y4), none, none]) ⟨rfl, ⟨rfl, ⟨rfl, trivial⟩⟩⟩ ?_
  exact hR4  hJ
set_option maxHeartbeats 400000 in
theorem s_Judge_countPairsOfRuns_L72 {g : zk_T} {R4 : Int32 → Int32 → zm → Prop} {K : Int32 → zm → Prop} (hR4 : ∀ {x1 : Int32} {x2 : Int32} {m : zm}, R4 x1 x2 m → zq_V (zk_g g) ("RiichiTable$Judge", prog_2_method_16_code, 5, (some .int), false, zq_rm 0 0 0) 0 0 4 [some (.ref 2), some (.int x1), some (.int x2), none, none] [] (zm_hp m) (zm_QI K)) {x2 : Int32} {t0 : Int32} {m : zm} (hJ : j_Judge_countPairsOfRuns_L72  R4 K x2 t0 m) : zq_V (zk_g g) ("RiichiTable$Judge", prog_2_method_16_code, 5, (some .int), false, zq_rm 0 0 0) 0 0 72 [some (.ref 2), none, some (.int x2), none, none] [.int t0] (zm_hp m) (zm_QI K) := by
  unfold j_Judge_countPairsOfRuns_L72 at hJ
  refine zq_iconst (v := 0) d_Judge_countPairsOfRuns_72 zk_i0 ?_
  refine zr_less (L' := [some (.ref 2), none, some (.int x2), none, none]) ⟨rfl, ⟨rfl, trivial⟩⟩ ?_
  exact s_Judge_countPairsOfRuns_L73  hR4  hJ
set_option maxHeartbeats 400000 in
theorem s_Judge_countPairsOfRuns_L14 {g : zk_T} {R4 : Int32 → Int32 → zm → Prop} {K : Int32 → zm → Prop} (hR4 : ∀ {x1 : Int32} {x2 : Int32} {m : zm}, R4 x1 x2 m → zq_V (zk_g g) ("RiichiTable$Judge", prog_2_method_16_code, 5, (some .int), false, zq_rm 0 0 0) 0 0 4 [some (.ref 2), some (.int x1), some (.int x2), none, none] [] (zm_hp m) (zm_QI K)) : ∀ (n : Nat) {x1 : Int32} {x2 : Int32} {x3 : Int32} {x4 : Int32} {m : zm}, j_Judge_countPairsOfRuns_L14  R4 K n x1 x2 x3 x4 m → zq_V (zk_g g) ("RiichiTable$Judge", prog_2_method_16_code, 5, (some .int), false, zq_rm 0 0 0) 0 0 14 [some (.ref 2), some (.int x1), some (.int x2), some (.int x3), some (.int x4)] [] (zm_hp m) (zm_QI K) := by
  intro n
  induction n with
  | zero =>
    intro x1 x2 x3 x4 m hJ
    exact False.elim hJ
  | succ n ih =>
    intro x1 x2 x3 x4 m hJ
    rw [j_Judge_countPairsOfRuns_L14] at hJ
    refine zq_iload d_Judge_countPairsOfRuns_14 rfl ?_
    refine zq_iload_n d_Judge_countPairsOfRuns_16 rfl rfl ?_
    refine zq_icmp_gt (tgt := 50) d_Judge_countPairsOfRuns_17 (by decide) (fun c => ?_) (fun c => ?_)
    · have hJ := hJ.1 c
      refine zq_iload_n d_Judge_countPairsOfRuns_50 rfl rfl ?_
      refine zq_aload_n d_Judge_countPairsOfRuns_51 rfl rfl ?_
      refine zm_getR fg_Judge_22 d_Judge_countPairsOfRuns_52 zs_Judge rfl ?_
      refine zq_iload_n d_Judge_countPairsOfRuns_55 rfl rfl ?_
      obtain ⟨hb, hJ⟩ := hJ
      refine zm_ald d_Judge_countPairsOfRuns_56 (rfl : zm_sh[8]? = some (.inl (0, 4, .inl (fun _ => 0)))) hb ?_
      refine zq_iconst (v := 4) d_Judge_countPairsOfRuns_57 zk_i4 ?_
      refine zq_irem d_Judge_countPairsOfRuns_58 (by decide) ?_
      refine zq_if_ne (tgt := 72) d_Judge_countPairsOfRuns_59 (by decide) (fun c => ?_) (fun c => ?_)
      · have hJ := hJ.1 c
        refine zr_less (L' := [some (.ref 2), none, some (.int x2), none, none]) ⟨rfl, ⟨rfl, trivial⟩⟩ ?_
        exact s_Judge_countPairsOfRuns_L72  hR4  hJ
      · have hJ := hJ.2 c
        refine zq_iload_n d_Judge_countPairsOfRuns_62 rfl rfl ?_
        refine zq_iconst (v := 2) d_Judge_countPairsOfRuns_63 zk_i2 ?_
        refine zq_irem d_Judge_countPairsOfRuns_64 (by decide) ?_
        refine zq_if_ne (tgt := 72) d_Judge_countPairsOfRuns_65 (by decide) (fun c => ?_) (fun c => ?_)
        · have hJ := hJ.1 c
          refine zr_less (L' := [some (.ref 2), none, some (.int x2), none, none]) ⟨rfl, ⟨rfl, trivial⟩⟩ ?_
          exact s_Judge_countPairsOfRuns_L72  hR4  hJ
        · have hJ := hJ.2 c
          refine zq_iconst (v := 1) d_Judge_countPairsOfRuns_68 zk_i1 ?_
          refine zq_goto (tgt := 73) d_Judge_countPairsOfRuns_69 (by decide) ?_
          refine zr_less (L' := [some (.ref 2), none, some (.int x2), none, none]) ⟨rfl, ⟨rfl, trivial⟩⟩ ?_
          exact s_Judge_countPairsOfRuns_L73  hR4  hJ
    · have hJ := hJ.2 c
      refine zq_iload_n d_Judge_countPairsOfRuns_20 rfl rfl ?_
      refine zq_aload_n d_Judge_countPairsOfRuns_21 rfl rfl ?_
      refine zm_getR fg_Judge_22 d_Judge_countPairsOfRuns_22 zs_Judge rfl ?_
      refine zq_iload d_Judge_countPairsOfRuns_25 rfl ?_
      obtain ⟨hb, hJ⟩ := hJ
      refine zm_ald d_Judge_countPairsOfRuns_27 (rfl : zm_sh[8]? = some (.inl (0, 4, .inl (fun _ => 0)))) hb ?_
      refine zq_aload_n d_Judge_countPairsOfRuns_28 rfl rfl ?_
      refine zm_getR fg_Judge_22 d_Judge_countPairsOfRuns_29 zs_Judge rfl ?_
      refine zq_iload_n d_Judge_countPairsOfRuns_32 rfl rfl ?_
      obtain ⟨hb, hJ⟩ := hJ
      refine zm_ald d_Judge_countPairsOfRuns_33 (rfl : zm_sh[8]? = some (.inl (0, 4, .inl (fun _ => 0)))) hb ?_
      refine zq_icmp_ne (tgt := 41) d_Judge_countPairsOfRuns_34 (by decide) (fun c => ?_) (fun c => ?_)
      · have hJ := hJ.1 c
        refine zq_iconst (v := 0) d_Judge_countPairsOfRuns_41 zk_i0 ?_
        refine zr_less (L' := [some (.ref 2), some (.int x1), some (.int x2), none, some (.int x4)]) ⟨rfl, ⟨rfl, ⟨rfl, ⟨rfl, trivial⟩⟩⟩⟩ ?_
        exact s_Judge_countPairsOfRuns_L42  hR4 ih  hJ
      · have hJ := hJ.2 c
        refine zq_iconst (v := 1) d_Judge_countPairsOfRuns_37 zk_i1 ?_
        refine zq_goto (tgt := 42) d_Judge_countPairsOfRuns_38 (by decide) ?_
        refine zr_less (L' := [some (.ref 2), some (.int x1), some (.int x2), none, some (.int x4)]) ⟨rfl, ⟨rfl, ⟨rfl, ⟨rfl, trivial⟩⟩⟩⟩ ?_
        exact s_Judge_countPairsOfRuns_L42  hR4 ih  hJ
set_option maxHeartbeats 400000 in
theorem s_Judge_countPairsOfRuns_L4 {g : zk_T} {K : Int32 → zm → Prop} : ∀ (n : Nat) {x1 : Int32} {x2 : Int32} {m : zm}, j_Judge_countPairsOfRuns_L4   K n x1 x2 m → zq_V (zk_g g) ("RiichiTable$Judge", prog_2_method_16_code, 5, (some .int), false, zq_rm 0 0 0) 0 0 4 [some (.ref 2), some (.int x1), some (.int x2), none, none] [] (zm_hp m) (zm_QI K) := by
  intro n
  induction n with
  | zero =>
    intro x1 x2 m hJ
    exact False.elim hJ
  | succ n ih =>
    intro x1 x2 m hJ
    rw [j_Judge_countPairsOfRuns_L4] at hJ
    refine zq_iload_n d_Judge_countPairsOfRuns_4 rfl rfl ?_
    refine zq_iconst (v := 4) d_Judge_countPairsOfRuns_5 zk_i4 ?_
    refine zq_icmp_ge (tgt := 81) d_Judge_countPairsOfRuns_6 (by decide) (fun c => ?_) (fun c => ?_)
    · have hJ := hJ.1 c
      refine zq_iload_n d_Judge_countPairsOfRuns_81 rfl rfl ?_
      exact zq_iret d_Judge_countPairsOfRuns_82 rfl rfl (Nat.le_refl _) (Nat.le_refl _) ⟨_, _, rfl, rfl, hJ⟩
    · have hJ := hJ.2 c
      refine zq_iconst (v := 0) d_Judge_countPairsOfRuns_9 zk_i0 ?_
      refine zr_istore_n (L' := [some (.ref 2), some (.int x1), some (.int x2), some (.int 0), none]) d_Judge_countPairsOfRuns_10 rfl (Nat.le_of_ble_eq_true rfl) rfl ?_
      refine zq_iconst (v := 0) d_Judge_countPairsOfRuns_11 zk_i0 ?_
      refine zr_istore (L' := [some (.ref 2), some (.int x1), some (.int x2), some (.int 0), some (.int 0)]) d_Judge_countPairsOfRuns_12 (Nat.le_of_ble_eq_true rfl) rfl ?_
      refine zr_less (L' := [some (.ref 2), some (.int x1), some (.int x2), some (.int 0), some (.int 0)]) ⟨rfl, ⟨rfl, ⟨rfl, ⟨rfl, ⟨rfl, trivial⟩⟩⟩⟩⟩ ?_
      obtain ⟨n14, hJ⟩ := hJ
      exact s_Judge_countPairsOfRuns_L14  ih n14  hJ
set_option maxHeartbeats 400000 in
theorem s_Judge_countPairsOfRuns {g : zk_T} {K : Int32 → zm → Prop} {m : zm} (hJ : j_Judge_countPairsOfRuns  m K) : zq_Mt (zk_g g) y_Judge_countPairsOfRuns 0 0 0 [.ref 2] (zm_hp m) (zm_QI K) := by
  unfold j_Judge_countPairsOfRuns at hJ
  refine zq_meth (ini := false) rfl (fun h => by cases h) (Nat.le_of_ble_eq_true rfl) ?_
  refine zr_L (F := ("RiichiTable$Judge", prog_2_method_16_code, 5, (some .int), false, zq_rm 0 0 0)) (L' := [some (.ref 2), none, none, none, none]) rfl ?_
  refine zq_iconst (v := 0) d_Judge_countPairsOfRuns_0 zk_i0 ?_
  refine zr_istore_n (L' := [some (.ref 2), some (.int 0), none, none, none]) d_Judge_countPairsOfRuns_1 rfl (Nat.le_of_ble_eq_true rfl) rfl ?_
  refine zq_iconst (v := 0) d_Judge_countPairsOfRuns_2 zk_i0 ?_
  refine zr_istore_n (L' := [some (.ref 2), some (.int 0), some (.int 0), none, none]) d_Judge_countPairsOfRuns_3 rfl (Nat.le_of_ble_eq_true rfl) rfl ?_
  refine zr_less (L' := [some (.ref 2), some (.int 0), some (.int 0), none, none]) ⟨rfl, ⟨rfl, ⟨rfl, trivial⟩⟩⟩ ?_
  obtain ⟨n4, hJ⟩ := hJ
  exact s_Judge_countPairsOfRuns_L4   n4  hJ
set_option maxHeartbeats 400000 in
theorem s_Judge_hasStraight_L47 {g : zk_T} {a0 : Int64} {K : Int32 → zm → Prop} {t0 : Int32} {m : zm} (hJ : j_Judge_hasStraight_L47 a0  K t0 m) : zq_V (zk_g g) ("RiichiTable$Judge", prog_2_method_13_code, 2, (some .boolean), false, zq_rm 0 0 0) 0 0 47 [some (.long a0), none] [.int t0] (zm_hp m) (zm_QI K) := by
  unfold j_Judge_hasStraight_L47 at hJ
  exact zq_iret d_Judge_hasStraight_47 rfl hJ.1.nar (Nat.le_refl _) (Nat.le_refl _) ⟨_, _, rfl, rfl, hJ.2⟩
set_option maxHeartbeats 400000 in
theorem s_Judge_hasStraight_L42 {g : zk_T} {a0 : Int64} {K : Int32 → zm → Prop} {m : zm} (hJ : j_Judge_hasStraight_L42 a0  K  m) : zq_V (zk_g g) ("RiichiTable$Judge", prog_2_method_13_code, 2, (some .boolean), false, zq_rm 0 0 0) 0 0 42 [some (.long a0), none] [] (zm_hp m) (zm_QI K) := by
  unfold j_Judge_hasStraight_L42 at hJ
  refine zq_iconst (v := 1) d_Judge_hasStraight_42 zk_i1 ?_
  refine zq_goto (tgt := 47) d_Judge_hasStraight_43 (by decide) ?_
  refine zr_less (L' := [some (.long a0), none]) ⟨rfl, trivial⟩ ?_
  exact s_Judge_hasStraight_L47    hJ
set_option maxHeartbeats 400000 in
theorem s_Judge_hasStraight {g : zk_T} {a0 : Int64} {K : Int32 → zm → Prop} {m : zm} (hJ : j_Judge_hasStraight a0 m K) : zq_Mt (zk_g g) y_Judge_hasStraight 0 0 0 [.long a0] (zm_hp m) (zm_QI K) := by
  unfold j_Judge_hasStraight at hJ
  refine zq_meth (ini := false) rfl (fun h => by cases h) (Nat.le_of_ble_eq_true rfl) ?_
  refine zr_L (F := ("RiichiTable$Judge", prog_2_method_13_code, 2, (some .boolean), false, zq_rm 0 0 0)) (L' := [some (.long a0), none]) rfl ?_
  refine zq_lload_n d_Judge_hasStraight_0 rfl rfl ?_
  refine zq_ldc2 (v := 73) (zq_in (zq_c3 (List.mem_of_getElem? (i := 67) rfl)) rfl) d_Judge_hasStraight_1 ?_
  refine zq_land d_Judge_hasStraight_4 ?_
  refine zq_ldc2 (v := 73) (zq_in (zq_c3 (List.mem_of_getElem? (i := 67) rfl)) rfl) d_Judge_hasStraight_5 ?_
  refine zq_lcmp d_Judge_hasStraight_8 ?_
  refine zq_if_eq (tgt := 42) d_Judge_hasStraight_9 (by decide) (fun c => ?_) (fun c => ?_)
  · have hJ := hJ.1 c
    refine zr_less (L' := [some (.long a0), none]) ⟨rfl, trivial⟩ ?_
    exact s_Judge_hasStraight_L42    hJ
  · have hJ := hJ.2 c
    refine zq_lload_n d_Judge_hasStraight_12 rfl rfl ?_
    refine zq_bipush (v := 9) d_Judge_hasStraight_13 zk_b9 ?_
    refine zq_lshr d_Judge_hasStraight_15 ?_
    refine zq_ldc2 (v := 73) (zq_in (zq_c3 (List.mem_of_getElem? (i := 67) rfl)) rfl) d_Judge_hasStraight_16 ?_
    refine zq_land d_Judge_hasStraight_19 ?_
    refine zq_ldc2 (v := 73) (zq_in (zq_c3 (List.mem_of_getElem? (i := 67) rfl)) rfl) d_Judge_hasStraight_20 ?_
    refine zq_lcmp d_Judge_hasStraight_23 ?_
    refine zq_if_eq (tgt := 42) d_Judge_hasStraight_24 (by decide) (fun c => ?_) (fun c => ?_)
    · have hJ := hJ.1 c
      refine zr_less (L' := [some (.long a0), none]) ⟨rfl, trivial⟩ ?_
      exact s_Judge_hasStraight_L42    hJ
    · have hJ := hJ.2 c
      refine zq_lload_n d_Judge_hasStraight_27 rfl rfl ?_
      refine zq_bipush (v := 18) d_Judge_hasStraight_28 zk_b18 ?_
      refine zq_lshr d_Judge_hasStraight_30 ?_
      refine zq_ldc2 (v := 73) (zq_in (zq_c3 (List.mem_of_getElem? (i := 67) rfl)) rfl) d_Judge_hasStraight_31 ?_
      refine zq_land d_Judge_hasStraight_34 ?_
      refine zq_ldc2 (v := 73) (zq_in (zq_c3 (List.mem_of_getElem? (i := 67) rfl)) rfl) d_Judge_hasStraight_35 ?_
      refine zq_lcmp d_Judge_hasStraight_38 ?_
      refine zq_if_ne (tgt := 46) d_Judge_hasStraight_39 (by decide) (fun c => ?_) (fun c => ?_)
      · have hJ := hJ.1 c
        refine zq_iconst (v := 0) d_Judge_hasStraight_46 zk_i0 ?_
        refine zr_less (L' := [some (.long a0), none]) ⟨rfl, trivial⟩ ?_
        exact s_Judge_hasStraight_L47    hJ
      · have hJ := hJ.2 c
        refine zr_less (L' := [some (.long a0), none]) ⟨rfl, trivial⟩ ?_
        exact s_Judge_hasStraight_L42    hJ
set_option maxHeartbeats 400000 in
theorem s_Judge_inAllSuits {g : zk_T} {a0 : Int64} {K : Int64 → zm → Prop} {m : zm} (hJ : j_Judge_inAllSuits a0 m K) : zq_Mt (zk_g g) y_Judge_inAllSuits 0 0 0 [.long a0] (zm_hp m) (zm_QL K) := by
  unfold j_Judge_inAllSuits at hJ
  refine zq_meth (ini := false) rfl (fun h => by cases h) (Nat.le_of_ble_eq_true rfl) ?_
  refine zr_L (F := ("RiichiTable$Judge", prog_2_method_12_code, 2, (some .long), false, zq_rm 0 0 0)) (L' := [some (.long a0), none]) rfl ?_
  refine zq_lload_n d_Judge_inAllSuits_0 rfl rfl ?_
  refine zq_lload_n d_Judge_inAllSuits_1 rfl rfl ?_
  refine zq_bipush (v := 9) d_Judge_inAllSuits_2 zk_b9 ?_
  refine zq_lshr d_Judge_inAllSuits_4 ?_
  refine zq_land d_Judge_inAllSuits_5 ?_
  refine zq_lload_n d_Judge_inAllSuits_6 rfl rfl ?_
  refine zq_bipush (v := 18) d_Judge_inAllSuits_7 zk_b18 ?_
  refine zq_lshr d_Judge_inAllSuits_9 ?_
  refine zq_land d_Judge_inAllSuits_10 ?_
  refine zq_ldc2 (v := 511) (zq_in (zq_c3 (List.mem_of_getElem? (i := 7) rfl)) rfl) d_Judge_inAllSuits_11 ?_
  refine zq_land d_Judge_inAllSuits_14 ?_
  exact zq_lret d_Judge_inAllSuits_15 rfl (Nat.le_refl _) (Nat.le_refl _) ⟨_, _, rfl, rfl, hJ⟩
set_option maxHeartbeats 400000 in
theorem s_Judge_isFlat_L65 {g : zk_T} {K : Int32 → zm → Prop} {m : zm} (hJ : j_Judge_isFlat_L65   K  m) : zq_V (zk_g g) ("RiichiTable$Judge", prog_2_method_15_code, 3, (some .boolean), false, zq_rm 0 0 0) 0 0 65 [some (.ref 2), none, none] [] (zm_hp m) (zm_QI K) := by
  unfold j_Judge_isFlat_L65 at hJ
  refine zq_iconst (v := 0) d_Judge_isFlat_65 zk_i0 ?_
  exact zq_iret d_Judge_isFlat_66 rfl (zm_isB.nar (Or.inl rfl)) (Nat.le_refl _) (Nat.le_refl _) ⟨_, _, rfl, rfl, hJ⟩
set_option maxHeartbeats 400000 in
theorem s_Judge_isFlat_L120 {g : zk_T} {K : Int32 → zm → Prop} {t0 : Int32} {m : zm} (hJ : j_Judge_isFlat_L120   K t0 m) : zq_V (zk_g g) ("RiichiTable$Judge", prog_2_method_15_code, 3, (some .boolean), false, zq_rm 0 0 0) 0 0 120 [some (.ref 2), none, none] [.int t0] (zm_hp m) (zm_QI K) := by
  unfold j_Judge_isFlat_L120 at hJ
  exact zq_iret d_Judge_isFlat_120 rfl hJ.1.nar (Nat.le_refl _) (Nat.le_refl _) ⟨_, _, rfl, rfl, hJ.2⟩
set_option maxHeartbeats 400000 in
theorem s_Judge_isFlat_L115 {g : zk_T} {K : Int32 → zm → Prop} {m : zm} (hJ : j_Judge_isFlat_L115   K  m) : zq_V (zk_g g) ("RiichiTable$Judge", prog_2_method_15_code, 3, (some .boolean), false, zq_rm 0 0 0) 0 0 115 [some (.ref 2), none, none] [] (zm_hp m) (zm_QI K) := by
  unfold j_Judge_isFlat_L115 at hJ
  refine zq_iconst (v := 1) d_Judge_isFlat_115 zk_i1 ?_
  refine zq_goto (tgt := 120) d_Judge_isFlat_116 (by decide) ?_
  refine zr_less (L' := [some (.ref 2), none, none]) ⟨rfl, trivial⟩ ?_
  exact s_Judge_isFlat_L120    hJ
set_option maxHeartbeats 400000 in
theorem s_Judge_isFlat_L119 {g : zk_T} {K : Int32 → zm → Prop} {m : zm} (hJ : j_Judge_isFlat_L119   K  m) : zq_V (zk_g g) ("RiichiTable$Judge", prog_2_method_15_code, 3, (some .boolean), false, zq_rm 0 0 0) 0 0 119 [some (.ref 2), none, none] [] (zm_hp m) (zm_QI K) := by
  unfold j_Judge_isFlat_L119 at hJ
  refine zq_iconst (v := 0) d_Judge_isFlat_119 zk_i0 ?_
  refine zr_less (L' := [some (.ref 2), none, none]) ⟨rfl, trivial⟩ ?_
  exact s_Judge_isFlat_L120    hJ
set_option maxHeartbeats 400000 in
theorem s_Judge_isFlat_L100 {g : zk_T} {K : Int32 → zm → Prop} {x1 : Int32} {x2 : Int32} {m : zm} (hJ : j_Judge_isFlat_L100   K x1 x2 m) : zq_V (zk_g g) ("RiichiTable$Judge", prog_2_method_15_code, 3, (some .boolean), false, zq_rm 0 0 0) 0 0 100 [some (.ref 2), some (.int x1), some (.int x2)] [] (zm_hp m) (zm_QI K) := by
  unfold j_Judge_isFlat_L100 at hJ
  refine zq_aload_n d_Judge_isFlat_100 rfl rfl ?_
  refine zm_getI fg_Judge_35 d_Judge_isFlat_101 zs_Judge rfl ?_
  refine zq_iload_n d_Judge_isFlat_104 rfl rfl ?_
  refine zq_iconst (v := 2) d_Judge_isFlat_105 zk_i2 ?_
  refine zq_iadd d_Judge_isFlat_106 ?_
  refine zq_icmp_ne (tgt := 119) d_Judge_isFlat_107 (by decide) (fun c => ?_) (fun c => ?_)
  · have hJ := hJ.1 c
    refine zr_less (L' := [some (.ref 2), none, none]) ⟨rfl, trivial⟩ ?_
    exact s_Judge_isFlat_L119    hJ
  · have hJ := hJ.2 c
    refine zq_iload_n d_Judge_isFlat_110 rfl rfl ?_
    refine zq_iconst (v := 1) d_Judge_isFlat_111 zk_i1 ?_
    refine zq_icmp_le (tgt := 119) d_Judge_isFlat_112 (by decide) (fun c => ?_) (fun c => ?_)
    · have hJ := hJ.1 c
      refine zr_less (L' := [some (.ref 2), none, none]) ⟨rfl, trivial⟩ ?_
      exact s_Judge_isFlat_L119    hJ
    · have hJ := hJ.2 c
      refine zr_less (L' := [some (.ref 2), none, none]) ⟨rfl, trivial⟩ ?_
      exact s_Judge_isFlat_L115    hJ
set_option maxHeartbeats 400000 in
theorem s_Judge_isFlat_L2 {g : zk_T} {K : Int32 → zm → Prop} : ∀ (n : Nat) {x1 : Int32} {m : zm}, j_Judge_isFlat_L2   K n x1 m → zq_V (zk_g g) ("RiichiTable$Judge", prog_2_method_15_code, 3, (some .boolean), false, zq_rm 0 0 0) 0 0 2 [some (.ref 2), some (.int x1), none] [] (zm_hp m) (zm_QI K) := by
  intro n
  induction n with
  | zero =>
    intro x1 m hJ
    exact False.elim hJ
  | succ n ih =>
    intro x1 m hJ
    rw [j_Judge_isFlat_L2] at hJ
    refine zq_iload_n d_Judge_isFlat_2 rfl rfl ?_
    refine zq_iconst (v := 4) d_Judge_isFlat_3 zk_i4 ?_
    refine zq_icmp_ge (tgt := 26) d_Judge_isFlat_4 (by decide) (fun c => ?_) (fun c => ?_)
    · have hJ := hJ.1 c
      refine zq_aload_n d_Judge_isFlat_26 rfl rfl ?_
      refine zm_getI fg_Judge_110 d_Judge_isFlat_27 zs_Judge rfl ?_
      refine zq_bipush (v := 31) d_Judge_isFlat_30 zk_b31 ?_
      refine zq_icmp_ge (tgt := 65) d_Judge_isFlat_32 (by decide) (fun c => ?_) (fun c => ?_)
      · have hJ := hJ.1 c
        refine zr_less (L' := [some (.ref 2), none, none]) ⟨rfl, trivial⟩ ?_
        exact s_Judge_isFlat_L65    hJ
      · have hJ := hJ.2 c
        refine zq_aload_n d_Judge_isFlat_35 rfl rfl ?_
        refine zm_getI fg_Judge_110 d_Judge_isFlat_36 zs_Judge rfl ?_
        refine zq_aload_n d_Judge_isFlat_39 rfl rfl ?_
        refine zm_getI fg_Judge_205 d_Judge_isFlat_40 zs_Judge rfl ?_
        refine zq_icmp_eq (tgt := 65) d_Judge_isFlat_43 (by decide) (fun c => ?_) (fun c => ?_)
        · have hJ := hJ.1 c
          refine zr_less (L' := [some (.ref 2), none, none]) ⟨rfl, trivial⟩ ?_
          exact s_Judge_isFlat_L65    hJ
        · have hJ := hJ.2 c
          refine zq_aload_n d_Judge_isFlat_46 rfl rfl ?_
          refine zm_getI fg_Judge_110 d_Judge_isFlat_47 zs_Judge rfl ?_
          refine zq_aload_n d_Judge_isFlat_50 rfl rfl ?_
          refine zm_getI fg_Judge_208 d_Judge_isFlat_51 zs_Judge rfl ?_
          refine zq_icmp_eq (tgt := 65) d_Judge_isFlat_54 (by decide) (fun c => ?_) (fun c => ?_)
          · have hJ := hJ.1 c
            refine zr_less (L' := [some (.ref 2), none, none]) ⟨rfl, trivial⟩ ?_
            exact s_Judge_isFlat_L65    hJ
          · have hJ := hJ.2 c
            refine zq_aload_n d_Judge_isFlat_57 rfl rfl ?_
            refine zm_getI fg_Judge_113 d_Judge_isFlat_58 zs_Judge rfl ?_
            refine zq_iconst (v := 4) d_Judge_isFlat_61 zk_i4 ?_
            refine zq_icmp_lt (tgt := 67) d_Judge_isFlat_62 (by decide) (fun c => ?_) (fun c => ?_)
            · have hJ := hJ.1 c
              refine zq_aload_n d_Judge_isFlat_67 rfl rfl ?_
              refine zm_getR fg_Judge_22 d_Judge_isFlat_68 zs_Judge rfl ?_
              refine zq_aload_n d_Judge_isFlat_71 rfl rfl ?_
              refine zm_getI fg_Judge_113 d_Judge_isFlat_72 zs_Judge rfl ?_
              obtain ⟨hb, hJ⟩ := hJ
              refine zm_ald d_Judge_isFlat_75 (rfl : zm_sh[8]? = some (.inl (0, 4, .inl (fun _ => 0)))) hb ?_
              refine zq_iconst (v := 4) d_Judge_isFlat_76 zk_i4 ?_
              refine zq_idiv d_Judge_isFlat_77 (by decide) ?_
              refine zr_topi (fun y1 hy1 => ?_)
              have hJ := hJ y1 hy1
              refine zr_istore_n (L' := [some (.ref 2), some (.int y1), none]) d_Judge_isFlat_78 rfl (Nat.le_of_ble_eq_true rfl) rfl ?_
              refine zq_iload_n d_Judge_isFlat_79 rfl rfl ?_
              refine zq_bipush (v := 9) d_Judge_isFlat_80 zk_b9 ?_
              refine zq_irem d_Judge_isFlat_82 (by decide) ?_
              refine zq_iconst (v := 1) d_Judge_isFlat_83 zk_i1 ?_
              refine zq_iadd d_Judge_isFlat_84 ?_
              refine zr_topi (fun y2 hy2 => ?_)
              have hJ := hJ y2 hy2
              refine zr_istore_n (L' := [some (.ref 2), some (.int y1), some (.int y2)]) d_Judge_isFlat_85 rfl (Nat.le_of_ble_eq_true rfl) rfl ?_
              refine zq_aload_n d_Judge_isFlat_86 rfl rfl ?_
              refine zm_getI fg_Judge_35 d_Judge_isFlat_87 zs_Judge rfl ?_
              refine zq_iload_n d_Judge_isFlat_90 rfl rfl ?_
              refine zq_icmp_ne (tgt := 100) d_Judge_isFlat_91 (by decide) (fun c => ?_) (fun c => ?_)
              · have hJ := hJ.1 c
                refine zr_less (L' := [some (.ref 2), some (.int y1), some (.int y2)]) ⟨rfl, ⟨rfl, ⟨rfl, trivial⟩⟩⟩ ?_
                exact s_Judge_isFlat_L100    hJ
              · have hJ := hJ.2 c
                refine zq_iload_n d_Judge_isFlat_94 rfl rfl ?_
                refine zq_bipush (v := 7) d_Judge_isFlat_95 zk_b7 ?_
                refine zq_icmp_lt (tgt := 115) d_Judge_isFlat_97 (by decide) (fun c => ?_) (fun c => ?_)
                · have hJ := hJ.1 c
                  refine zr_less (L' := [some (.ref 2), none, none]) ⟨rfl, trivial⟩ ?_
                  exact s_Judge_isFlat_L115    hJ
                · have hJ := hJ.2 c
                  refine zr_less (L' := [some (.ref 2), some (.int y1), some (.int y2)]) ⟨rfl, ⟨rfl, ⟨rfl, trivial⟩⟩⟩ ?_
                  exact s_Judge_isFlat_L100    hJ
            · have hJ := hJ.2 c
              refine zr_less (L' := [some (.ref 2), none, none]) ⟨rfl, trivial⟩ ?_
              exact s_Judge_isFlat_L65    hJ
    · have hJ := hJ.2 c
      refine zq_aload_n d_Judge_isFlat_7 rfl rfl ?_
      refine zm_getR fg_Judge_22 d_Judge_isFlat_8 zs_Judge rfl ?_
      refine zq_iload_n d_Judge_isFlat_11 rfl rfl ?_
      obtain ⟨hb, hJ⟩ := hJ
      refine zm_ald d_Judge_isFlat_12 (rfl : zm_sh[8]? = some (.inl (0, 4, .inl (fun _ => 0)))) hb ?_
      refine zq_iconst (v := 4) d_Judge_isFlat_13 zk_i4 ?_
      refine zq_irem d_Judge_isFlat_14 (by decide) ?_
      refine zq_if_eq (tgt := 20) d_Judge_isFlat_15 (by decide) (fun c => ?_) (fun c => ?_)
      · have hJ := hJ.1 c
        refine zr_iinc (d' := 1) d_Judge_isFlat_20 zk_i1 rfl (Nat.le_of_ble_eq_true rfl) (fun y3 hy3 => ?_)
        have hJ := hJ y3 hy3
        refine zr_L (L' := [some (.ref 2), some (.int y3), none]) rfl ?_
        refine zq_goto (tgt := 2) d_Judge_isFlat_23 (by decide) ?_
        refine zr_less (L' := [some (.ref 2), some (.int y3), none]) ⟨rfl, ⟨rfl, trivial⟩⟩ ?_
        exact ih  hJ
      · have hJ := hJ.2 c
        refine zq_iconst (v := 0) d_Judge_isFlat_18 zk_i0 ?_
        exact zq_iret d_Judge_isFlat_19 rfl (zm_isB.nar (Or.inl rfl)) (Nat.le_refl _) (Nat.le_refl _) ⟨_, _, rfl, rfl, hJ⟩
set_option maxHeartbeats 400000 in
theorem s_Judge_isFlat {g : zk_T} {K : Int32 → zm → Prop} {m : zm} (hJ : j_Judge_isFlat  m K) : zq_Mt (zk_g g) y_Judge_isFlat 0 0 0 [.ref 2] (zm_hp m) (zm_QI K) := by
  unfold j_Judge_isFlat at hJ
  refine zq_meth (ini := false) rfl (fun h => by cases h) (Nat.le_of_ble_eq_true rfl) ?_
  refine zr_L (F := ("RiichiTable$Judge", prog_2_method_15_code, 3, (some .boolean), false, zq_rm 0 0 0)) (L' := [some (.ref 2), none, none]) rfl ?_
  refine zq_iconst (v := 0) d_Judge_isFlat_0 zk_i0 ?_
  refine zr_istore_n (L' := [some (.ref 2), some (.int 0), none]) d_Judge_isFlat_1 rfl (Nat.le_of_ble_eq_true rfl) rfl ?_
  refine zr_less (L' := [some (.ref 2), some (.int 0), none]) ⟨rfl, ⟨rfl, trivial⟩⟩ ?_
  obtain ⟨n2, hJ⟩ := hJ
  exact s_Judge_isFlat_L2   n2  hJ
set_option maxHeartbeats 400000 in
theorem s_Judge_yakuOfRuns_L89 {g : zk_T} {a1 : Int64} {K : Int64 → zm → Prop} {x3 : Int64} {m : zm} (hJ : j_Judge_yakuOfRuns_L89 a1  K x3 m) : zq_V (zk_g g) ("RiichiTable$Judge", prog_2_method_14_code, 6, (some .long), false, zq_rm 1 0 0) 0 0 89 [some (.ref 2), some (.long a1), none, some (.long x3), none, none] [] (zm_hp m) (zm_QL K) := by
  unfold j_Judge_yakuOfRuns_L89 at hJ
  refine zq_lload_n d_Judge_yakuOfRuns_89 rfl rfl ?_
  exact zq_lret d_Judge_yakuOfRuns_90 rfl (Nat.le_refl _) (Nat.le_refl _) ⟨_, _, rfl, rfl, hJ⟩
set_option maxHeartbeats 400000 in
theorem s_Judge_yakuOfRuns_L81 {g : zk_T} {a1 : Int64} {K : Int64 → zm → Prop} {t0 : Int32} {t1 : Int64} {t2 : Int64} {m : zm} (hJ : j_Judge_yakuOfRuns_L81 a1  K t0 t1 t2 m) : zq_V (zk_g g) ("RiichiTable$Judge", prog_2_method_14_code, 6, (some .long), false, zq_rm 1 0 0) 0 0 81 [some (.ref 2), some (.long a1), none, none, none, none] [.int t0, .long t1, .long t2] (zm_hp m) (zm_QL K) := by
  unfold j_Judge_yakuOfRuns_L81 at hJ
  refine zq_bipush (v := 27) d_Judge_yakuOfRuns_81 zk_b27 ?_
  refine zr_csL (as := [.int t0, .int 27]) (st := [.long t1, .long t2]) d_Judge_yakuOfRuns_83 cc_Judge_191 cs_Judge_bitIf (s_Judge_bitIf  hJ) rfl ⟨Nat.le_of_ble_eq_true rfl, Nat.le_of_ble_eq_true rfl⟩ (Nat.le_of_ble_eq_true rfl) ⟨Nat.le_refl _, Nat.le_refl _⟩ rfl (fun r19 m18 hJ => ?_)
  refine zq_lor d_Judge_yakuOfRuns_86 ?_
  refine zq_lor d_Judge_yakuOfRuns_87 ?_
  refine zr_topl (fun y20 hy20 => ?_)
  have hJ := hJ y20 hy20
  refine zr_lstore_n (L' := [some (.ref 2), some (.long a1), none, some (.long y20), none, none]) d_Judge_yakuOfRuns_88 rfl (Nat.le_of_ble_eq_true rfl) rfl ?_
  refine zr_less (L' := [some (.ref 2), some (.long a1), none, some (.long y20), none, none]) ⟨rfl, ⟨rfl, ⟨rfl, trivial⟩⟩⟩ ?_
  exact s_Judge_yakuOfRuns_L89    hJ
set_option maxHeartbeats 400000 in
theorem s_Judge_yakuOfRuns_L64 {g : zk_T} {a1 : Int64} {K : Int64 → zm → Prop} {x5 : Int32} {t0 : Int32} {t1 : Int64} {t2 : Int64} {m : zm} (hJ : j_Judge_yakuOfRuns_L64 a1  K x5 t0 t1 t2 m) : zq_V (zk_g g) ("RiichiTable$Judge", prog_2_method_14_code, 6, (some .long), false, zq_rm 1 0 0) 0 0 64 [some (.ref 2), some (.long a1), none, none, none, some (.int x5)] [.int t0, .long t1, .long t2] (zm_hp m) (zm_QL K) := by
  unfold j_Judge_yakuOfRuns_L64 at hJ
  refine zq_bipush (v := 9) d_Judge_yakuOfRuns_64 zk_b9 ?_
  refine zr_csL (as := [.int t0, .int 9]) (st := [.long t1, .long t2]) d_Judge_yakuOfRuns_66 cc_Judge_191 cs_Judge_bitIf (s_Judge_bitIf  hJ) rfl ⟨Nat.le_of_ble_eq_true rfl, Nat.le_of_ble_eq_true rfl⟩ (Nat.le_of_ble_eq_true rfl) ⟨Nat.le_refl _, Nat.le_refl _⟩ rfl (fun r17 m16 hJ => ?_)
  refine zq_lor d_Judge_yakuOfRuns_69 ?_
  refine zq_iload d_Judge_yakuOfRuns_70 rfl ?_
  refine zq_iconst (v := 2) d_Judge_yakuOfRuns_72 zk_i2 ?_
  refine zq_icmp_ne (tgt := 80) d_Judge_yakuOfRuns_73 (by decide) (fun c => ?_) (fun c => ?_)
  · have hJ := hJ.1 c
    refine zq_iconst (v := 0) d_Judge_yakuOfRuns_80 zk_i0 ?_
    refine zr_less (L' := [some (.ref 2), some (.long a1), none, none, none, none]) ⟨rfl, ⟨rfl, trivial⟩⟩ ?_
    exact s_Judge_yakuOfRuns_L81    hJ
  · have hJ := hJ.2 c
    refine zq_iconst (v := 1) d_Judge_yakuOfRuns_76 zk_i1 ?_
    refine zq_goto (tgt := 81) d_Judge_yakuOfRuns_77 (by decide) ?_
    refine zr_less (L' := [some (.ref 2), some (.long a1), none, none, none, none]) ⟨rfl, ⟨rfl, trivial⟩⟩ ?_
    exact s_Judge_yakuOfRuns_L81    hJ
set_option maxHeartbeats 400000 in
theorem s_Judge_yakuOfRuns_L14 {g : zk_T} {a1 : Int64} {K : Int64 → zm → Prop} {t0 : Int32} {m : zm} (hJ : j_Judge_yakuOfRuns_L14 a1  K t0 m) : zq_V (zk_g g) ("RiichiTable$Judge", prog_2_method_14_code, 6, (some .long), false, zq_rm 1 0 0) 0 0 14 [some (.ref 2), some (.long a1), none, none, none, none] [.int t0] (zm_hp m) (zm_QL K) := by
  unfold j_Judge_yakuOfRuns_L14 at hJ
  refine zq_bipush (v := 15) d_Judge_yakuOfRuns_14 zk_b15 ?_
  refine zr_csL (as := [.int t0, .int 15]) (st := []) d_Judge_yakuOfRuns_16 cc_Judge_191 cs_Judge_bitIf (s_Judge_bitIf  hJ) rfl ⟨Nat.le_of_ble_eq_true rfl, Nat.le_of_ble_eq_true rfl⟩ (Nat.le_of_ble_eq_true rfl) ⟨Nat.le_refl _, Nat.le_refl _⟩ rfl (fun r4 m3 hJ => ?_)
  refine zq_lload_n d_Judge_yakuOfRuns_19 rfl rfl ?_
  refine zr_csI (as := [.long a1]) (st := [.long r4]) d_Judge_yakuOfRuns_20 cc_Judge_195 cs_Judge_hasStraight (s_Judge_hasStraight  hJ) rfl ⟨Nat.le_of_ble_eq_true rfl, Nat.le_of_ble_eq_true rfl⟩ (Nat.le_of_ble_eq_true rfl) ⟨Nat.le_refl _, Nat.le_refl _⟩ rfl (fun r6 m5 hJ => ?_)
  refine zq_bipush (v := 16) d_Judge_yakuOfRuns_23 zk_b16 ?_
  refine zr_csL (as := [.int r6, .int 16]) (st := [.long r4]) d_Judge_yakuOfRuns_25 cc_Judge_191 cs_Judge_bitIf (s_Judge_bitIf  hJ) rfl ⟨Nat.le_of_ble_eq_true rfl, Nat.le_of_ble_eq_true rfl⟩ (Nat.le_of_ble_eq_true rfl) ⟨Nat.le_refl _, Nat.le_refl _⟩ rfl (fun r8 m7 hJ => ?_)
  refine zq_lor d_Judge_yakuOfRuns_28 ?_
  refine zr_topl (fun y9 hy9 => ?_)
  have hJ := hJ y9 hy9
  refine zr_lstore_n (L' := [some (.ref 2), some (.long a1), none, some (.long y9), none, none]) d_Judge_yakuOfRuns_29 rfl (Nat.le_of_ble_eq_true rfl) rfl ?_
  refine zq_aload_n d_Judge_yakuOfRuns_30 rfl rfl ?_
  refine zm_getI fg_Judge_53 d_Judge_yakuOfRuns_31 zs_Judge rfl ?_
  refine zq_if_eq (tgt := 89) d_Judge_yakuOfRuns_34 (by decide) (fun c => ?_) (fun c => ?_)
  · have hJ := hJ.1 c
    refine zr_less (L' := [some (.ref 2), some (.long a1), none, some (.long y9), none, none]) ⟨rfl, ⟨rfl, ⟨rfl, trivial⟩⟩⟩ ?_
    exact s_Judge_yakuOfRuns_L89    hJ
  · have hJ := hJ.2 c
    refine zq_aload_n d_Judge_yakuOfRuns_37 rfl rfl ?_
    refine zr_cvI (q := 2) (as := []) (st := []) d_Judge_yakuOfRuns_38 cc_Judge_199 cv_Judge_countPairsOfRuns zs_Judge (s_Judge_countPairsOfRuns  hJ) rfl ⟨Nat.le_of_ble_eq_true rfl, Nat.le_of_ble_eq_true rfl⟩ (Nat.le_of_ble_eq_true rfl) ⟨Nat.le_refl _, Nat.le_refl _⟩ rfl (fun r11 m10 hJ => ?_)
    refine zr_istore (L' := [some (.ref 2), some (.long a1), none, some (.long y9), none, some (.int r11)]) d_Judge_yakuOfRuns_41 (Nat.le_of_ble_eq_true rfl) rfl ?_
    refine zq_lload_n d_Judge_yakuOfRuns_43 rfl rfl ?_
    refine zq_aload_n d_Judge_yakuOfRuns_44 rfl rfl ?_
    refine zr_cvI (q := 2) (as := []) (st := [.long y9]) d_Judge_yakuOfRuns_45 cc_Judge_202 cv_Judge_isFlat zs_Judge (s_Judge_isFlat  hJ) rfl ⟨Nat.le_of_ble_eq_true rfl, Nat.le_of_ble_eq_true rfl⟩ (Nat.le_of_ble_eq_true rfl) ⟨Nat.le_refl _, Nat.le_refl _⟩ rfl (fun r13 m12 hJ => ?_)
    refine zq_bipush (v := 8) d_Judge_yakuOfRuns_48 zk_b8 ?_
    refine zr_csL (as := [.int r13, .int 8]) (st := [.long y9]) d_Judge_yakuOfRuns_50 cc_Judge_191 cs_Judge_bitIf (s_Judge_bitIf  hJ) rfl ⟨Nat.le_of_ble_eq_true rfl, Nat.le_of_ble_eq_true rfl⟩ (Nat.le_of_ble_eq_true rfl) ⟨Nat.le_refl _, Nat.le_refl _⟩ rfl (fun r15 m14 hJ => ?_)
    refine zq_iload d_Judge_yakuOfRuns_53 rfl ?_
    refine zq_iconst (v := 1) d_Judge_yakuOfRuns_55 zk_i1 ?_
    refine zq_icmp_ne (tgt := 63) d_Judge_yakuOfRuns_56 (by decide) (fun c => ?_) (fun c => ?_)
    · have hJ := hJ.1 c
      refine zq_iconst (v := 0) d_Judge_yakuOfRuns_63 zk_i0 ?_
      refine zr_less (L' := [some (.ref 2), some (.long a1), none, none, none, some (.int r11)]) ⟨rfl, ⟨rfl, ⟨rfl, trivial⟩⟩⟩ ?_
      exact s_Judge_yakuOfRuns_L64    hJ
    · have hJ := hJ.2 c
      refine zq_iconst (v := 1) d_Judge_yakuOfRuns_59 zk_i1 ?_
      refine zq_goto (tgt := 64) d_Judge_yakuOfRuns_60 (by decide) ?_
      refine zr_less (L' := [some (.ref 2), some (.long a1), none, none, none, some (.int r11)]) ⟨rfl, ⟨rfl, ⟨rfl, trivial⟩⟩⟩ ?_
      exact s_Judge_yakuOfRuns_L64    hJ
set_option maxHeartbeats 400000 in
theorem s_Judge_yakuOfRuns {g : zk_T} {a1 : Int64} {K : Int64 → zm → Prop} {m : zm} (hJ : j_Judge_yakuOfRuns a1 m K) : zq_Mt (zk_g g) y_Judge_yakuOfRuns 1 0 0 [.ref 2, .long a1] (zm_hp m) (zm_QL K) := by
  unfold j_Judge_yakuOfRuns at hJ
  refine zq_meth (ini := false) rfl (fun h => by cases h) (Nat.le_of_ble_eq_true rfl) ?_
  refine zr_L (F := ("RiichiTable$Judge", prog_2_method_14_code, 6, (some .long), false, zq_rm 1 0 0)) (L' := [some (.ref 2), some (.long a1), none, none, none, none]) rfl ?_
  refine zq_lload_n d_Judge_yakuOfRuns_0 rfl rfl ?_
  refine zr_csL (as := [.long a1]) (st := []) d_Judge_yakuOfRuns_1 cc_Judge_188 cs_Judge_inAllSuits (s_Judge_inAllSuits  hJ) rfl ⟨Nat.le_of_ble_eq_true rfl, Nat.le_of_ble_eq_true rfl⟩ (Nat.le_of_ble_eq_true rfl) ⟨Nat.le_refl _, Nat.le_refl _⟩ rfl (fun r2 m1 hJ => ?_)
  refine zq_lconst (v := 0) d_Judge_yakuOfRuns_4 zk_l0 ?_
  refine zq_lcmp d_Judge_yakuOfRuns_5 ?_
  refine zq_if_eq (tgt := 13) d_Judge_yakuOfRuns_6 (by decide) (fun c => ?_) (fun c => ?_)
  · have hJ := hJ.1 c
    refine zq_iconst (v := 0) d_Judge_yakuOfRuns_13 zk_i0 ?_
    refine zr_less (L' := [some (.ref 2), some (.long a1), none, none, none, none]) ⟨rfl, ⟨rfl, trivial⟩⟩ ?_
    exact s_Judge_yakuOfRuns_L14    hJ
  · have hJ := hJ.2 c
    refine zq_iconst (v := 1) d_Judge_yakuOfRuns_9 zk_i1 ?_
    refine zq_goto (tgt := 14) d_Judge_yakuOfRuns_10 (by decide) ?_
    refine zr_less (L' := [some (.ref 2), some (.long a1), none, none, none, none]) ⟨rfl, ⟨rfl, trivial⟩⟩ ?_
    exact s_Judge_yakuOfRuns_L14    hJ
