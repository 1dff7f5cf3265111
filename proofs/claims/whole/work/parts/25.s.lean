set_option maxHeartbeats 400000 in
theorem s_Model_load_L41 {g : zk_T} {a1 : Int32} {a2 : Int32} {R5 : Int32 → Int32 → zm → Prop} {K : Int32 → zm → Prop} (hR5 : ∀ {x3 : Int32} {x4 : Int32} {m : zm}, R5 x3 x4 m → zq_V (zk_g g) ("RiichiTableModel", prog_9_method_11_code, 5, (some .int), false, zq_rm 0 0 0) 0 0 5 [some (.ref 33), some (.int a1), some (.int a2), some (.int x3), some (.int x4)] [] (zm_hp m) (zm_QI K)) {x3 : Int32} {x4 : Int32} {t0 : Int32} {t1 : Int32} {t2 : Int32} {m : zm} (hJ : j_Model_load_L41 a1 a2 R5 K x3 x4 t0 t1 t2 m) : zq_V (zk_g g) ("RiichiTableModel", prog_9_method_11_code, 5, (some .int), false, zq_rm 0 0 0) 0 0 41 [some (.ref 33), some (.int a1), some (.int a2), some (.int x3), some (.int x4)] [.int t0, .int t1, .int t2, .ref 50] (zm_hp m) (zm_QI K) := by
  unfold j_Model_load_L41 at hJ
  refine zq_iadd d_Model_load_41 ?_
  obtain ⟨hb, hJ⟩ := hJ
  refine zr_ast d_Model_load_42 (rfl : zm_sh[50]? = some (.inl (0, 34, .inl (fun _ => 0)))) hb (fun m1 hm1 => ?_)
  have hJ := hJ m1 hm1
  refine zq_iload_n d_Model_load_43 rfl rfl ?_
  refine zq_aload_n d_Model_load_44 rfl rfl ?_
  refine zm_getR fg_Model_60 d_Model_load_45 zs_Model rfl ?_
  refine zq_iload d_Model_load_48 rfl ?_
  obtain ⟨hb, hJ⟩ := hJ
  refine zm_ald d_Model_load_50 (rfl : zm_sh[50]? = some (.inl (0, 34, .inl (fun _ => 0)))) hb ?_
  refine zq_iadd d_Model_load_51 ?_
  refine zr_topi (fun y2 hy2 => ?_)
  have hJ := hJ y2 hy2
  refine zr_istore_n (L' := [some (.ref 33), some (.int a1), some (.int a2), some (.int y2), some (.int x4)]) d_Model_load_52 rfl (Nat.le_of_ble_eq_true rfl) rfl ?_
  refine zr_iinc (d' := 1) d_Model_load_53 zk_i1 rfl (Nat.le_of_ble_eq_true rfl) (fun y3 hy3 => ?_)
  have hJ := hJ y3 hy3
  refine zr_L (L' := [some (.ref 33), some (.int a1), some (.int a2), some (.int y2), some (.int y3)]) rfl ?_
  refine zq_goto (tgt := 5) d_Model_load_56 (by decide) ?_
  refine zr_less (L' := [some (.ref 33), some (.int a1), some (.int a2), some (.int y2), some (.int y3)]) ⟨rfl, ⟨rfl, ⟨rfl, ⟨rfl, ⟨rfl, trivial⟩⟩⟩⟩⟩ ?_
  exact hR5  hJ
set_option maxHeartbeats 400000 in
theorem s_Model_load_L5 {g : zk_T} {a1 : Int32} {a2 : Int32} {K : Int32 → zm → Prop} : ∀ (n : Nat) {x3 : Int32} {x4 : Int32} {m : zm}, j_Model_load_L5 a1 a2  K n x3 x4 m → zq_V (zk_g g) ("RiichiTableModel", prog_9_method_11_code, 5, (some .int), false, zq_rm 0 0 0) 0 0 5 [some (.ref 33), some (.int a1), some (.int a2), some (.int x3), some (.int x4)] [] (zm_hp m) (zm_QI K) := by
  intro n
  induction n with
  | zero =>
    intro x3 x4 m hJ
    exact False.elim hJ
  | succ n ih =>
    intro x3 x4 m hJ
    rw [j_Model_load_L5] at hJ
    refine zq_iload d_Model_load_5 rfl ?_
    refine zq_bipush (v := 34) d_Model_load_7 zk_b34 ?_
    refine zq_icmp_ge (tgt := 59) d_Model_load_9 (by decide) (fun c => ?_) (fun c => ?_)
    · have hJ := hJ.1 c
      refine zq_iload_n d_Model_load_59 rfl rfl ?_
      exact zq_iret d_Model_load_60 rfl rfl (Nat.le_refl _) (Nat.le_refl _) ⟨_, _, rfl, rfl, hJ⟩
    · have hJ := hJ.2 c
      refine zq_aload_n d_Model_load_12 rfl rfl ?_
      refine zm_getR fg_Model_60 d_Model_load_13 zs_Model rfl ?_
      refine zq_iload d_Model_load_16 rfl ?_
      refine zq_aload_n d_Model_load_18 rfl rfl ?_
      refine zm_getR fg_Model_16 d_Model_load_19 zs_Model rfl ?_
      refine zq_bipush (v := 34) d_Model_load_22 zk_b34 ?_
      refine zq_iload_n d_Model_load_24 rfl rfl ?_
      refine zq_imul d_Model_load_25 ?_
      refine zq_iload d_Model_load_26 rfl ?_
      refine zq_iadd d_Model_load_28 ?_
      obtain ⟨hb, hJ⟩ := hJ
      refine zm_ald d_Model_load_29 (rfl : zm_sh[36]? = some (.inl (0, 136, .inl (fun _ => 0)))) hb ?_
      refine zq_iload d_Model_load_30 rfl ?_
      refine zq_iload_n d_Model_load_32 rfl rfl ?_
      refine zq_icmp_ne (tgt := 40) d_Model_load_33 (by decide) (fun c => ?_) (fun c => ?_)
      · have hJ := hJ.1 c
        refine zq_iconst (v := 0) d_Model_load_40 zk_i0 ?_
        refine zr_less (L' := [some (.ref 33), some (.int a1), some (.int a2), some (.int x3), some (.int x4)]) ⟨rfl, ⟨rfl, ⟨rfl, ⟨rfl, ⟨rfl, trivial⟩⟩⟩⟩⟩ ?_
        exact s_Model_load_L41  ih  hJ
      · have hJ := hJ.2 c
        refine zq_iconst (v := 1) d_Model_load_36 zk_i1 ?_
        refine zq_goto (tgt := 41) d_Model_load_37 (by decide) ?_
        refine zr_less (L' := [some (.ref 33), some (.int a1), some (.int a2), some (.int x3), some (.int x4)]) ⟨rfl, ⟨rfl, ⟨rfl, ⟨rfl, ⟨rfl, trivial⟩⟩⟩⟩⟩ ?_
        exact s_Model_load_L41  ih  hJ
set_option maxHeartbeats 400000 in
theorem s_Model_load {g : zk_T} {a1 : Int32} {a2 : Int32} {K : Int32 → zm → Prop} {m : zm} (hJ : j_Model_load a1 a2 m K) : zq_Mt (zk_g g) y_Model_load 0 0 0 [.ref 33, .int a1, .int a2] (zm_hp m) (zm_QI K) := by
  unfold j_Model_load at hJ
  refine zq_meth (ini := false) rfl (fun h => by cases h) (Nat.le_of_ble_eq_true rfl) ?_
  refine zr_L (F := ("RiichiTableModel", prog_9_method_11_code, 5, (some .int), false, zq_rm 0 0 0)) (L' := [some (.ref 33), some (.int a1), some (.int a2), none, none]) rfl ?_
  refine zq_iconst (v := 0) d_Model_load_0 zk_i0 ?_
  refine zr_istore_n (L' := [some (.ref 33), some (.int a1), some (.int a2), some (.int 0), none]) d_Model_load_1 rfl (Nat.le_of_ble_eq_true rfl) rfl ?_
  refine zq_iconst (v := 0) d_Model_load_2 zk_i0 ?_
  refine zr_istore (L' := [some (.ref 33), some (.int a1), some (.int a2), some (.int 0), some (.int 0)]) d_Model_load_3 (Nat.le_of_ble_eq_true rfl) rfl ?_
  refine zr_less (L' := [some (.ref 33), some (.int a1), some (.int a2), some (.int 0), some (.int 0)]) ⟨rfl, ⟨rfl, ⟨rfl, ⟨rfl, ⟨rfl, trivial⟩⟩⟩⟩⟩ ?_
  obtain ⟨n5, hJ⟩ := hJ
  exact s_Model_load_L5   n5  hJ
set_option maxHeartbeats 400000 in
theorem s_Model_threes_L41 {g : zk_T} {R4 : Int32 → Int32 → zm → Prop} {K : Int32 → zm → Prop} (hR4 : ∀ {x1 : Int32} {x2 : Int32} {m : zm}, R4 x1 x2 m → zq_V (zk_g g) ("RiichiTableModel", prog_9_method_14_code, 3, (some .int), false, zq_rm 0 0 0) 0 0 4 [some (.ref 33), some (.int x1), some (.int x2)] [] (zm_hp m) (zm_QI K)) {x2 : Int32} {t0 : Int32} {m : zm} (hJ : j_Model_threes_L41  R4 K x2 t0 m) : zq_V (zk_g g) ("RiichiTableModel", prog_9_method_14_code, 3, (some .int), false, zq_rm 0 0 0) 0 0 41 [some (.ref 33), none, some (.int x2)] [.int t0] (zm_hp m) (zm_QI K) := by
  unfold j_Model_threes_L41 at hJ
  refine zr_istore_n (L' := [some (.ref 33), some (.int t0), some (.int x2)]) d_Model_threes_41 rfl (Nat.le_of_ble_eq_true rfl) rfl ?_
  refine zr_iinc (d' := 1) d_Model_threes_42 zk_i1 rfl (Nat.le_of_ble_eq_true rfl) (fun y1 hy1 => ?_)
  have hJ := hJ y1 hy1
  refine zr_L (L' := [some (.ref 33), some (.int t0), some (.int y1)]) rfl ?_
  refine zq_goto (tgt := 4) d_Model_threes_45 (by decide) ?_
  refine zr_less (L' := [some (.ref 33), some (.int t0), some (.int y1)]) ⟨rfl, ⟨rfl, ⟨rfl, trivial⟩⟩⟩ ?_
  exact hR4  hJ
set_option maxHeartbeats 400000 in
theorem s_Model_threes_L29 {g : zk_T} {R4 : Int32 → Int32 → zm → Prop} {K : Int32 → zm → Prop} (hR4 : ∀ {x1 : Int32} {x2 : Int32} {m : zm}, R4 x1 x2 m → zq_V (zk_g g) ("RiichiTableModel", prog_9_method_14_code, 3, (some .int), false, zq_rm 0 0 0) 0 0 4 [some (.ref 33), some (.int x1), some (.int x2)] [] (zm_hp m) (zm_QI K)) {x1 : Int32} {x2 : Int32} {t0 : Int32} {t1 : Int32} {m : zm} (hJ : j_Model_threes_L29  R4 K x1 x2 t0 t1 m) : zq_V (zk_g g) ("RiichiTableModel", prog_9_method_14_code, 3, (some .int), false, zq_rm 0 0 0) 0 0 29 [some (.ref 33), some (.int x1), some (.int x2)] [.int t0, .int t1] (zm_hp m) (zm_QI K) := by
  unfold j_Model_threes_L29 at hJ
  refine zq_isub d_Model_threes_29 ?_
  refine zq_iconst (v := 3) d_Model_threes_30 zk_i3 ?_
  refine zq_icmp_lt (tgt := 40) d_Model_threes_31 (by decide) (fun c => ?_) (fun c => ?_)
  · have hJ := hJ.1 c
    refine zq_iload_n d_Model_threes_40 rfl rfl ?_
    refine zr_less (L' := [some (.ref 33), none, some (.int x2)]) ⟨rfl, ⟨rfl, trivial⟩⟩ ?_
    exact s_Model_threes_L41  hR4  hJ
  · have hJ := hJ.2 c
    refine zq_iload_n d_Model_threes_34 rfl rfl ?_
    refine zq_iconst (v := 1) d_Model_threes_35 zk_i1 ?_
    refine zq_iadd d_Model_threes_36 ?_
    refine zq_goto (tgt := 41) d_Model_threes_37 (by decide) ?_
    refine zr_less (L' := [some (.ref 33), none, some (.int x2)]) ⟨rfl, ⟨rfl, trivial⟩⟩ ?_
    exact s_Model_threes_L41  hR4  hJ
set_option maxHeartbeats 400000 in
theorem s_Model_threes_L4 {g : zk_T} {K : Int32 → zm → Prop} : ∀ (n : Nat) {x1 : Int32} {x2 : Int32} {m : zm}, j_Model_threes_L4   K n x1 x2 m → zq_V (zk_g g) ("RiichiTableModel", prog_9_method_14_code, 3, (some .int), false, zq_rm 0 0 0) 0 0 4 [some (.ref 33), some (.int x1), some (.int x2)] [] (zm_hp m) (zm_QI K) := by
  intro n
  induction n with
  | zero =>
    intro x1 x2 m hJ
    exact False.elim hJ
  | succ n ih =>
    intro x1 x2 m hJ
    rw [j_Model_threes_L4] at hJ
    refine zq_iload_n d_Model_threes_4 rfl rfl ?_
    refine zq_bipush (v := 34) d_Model_threes_5 zk_b34 ?_
    refine zq_icmp_ge (tgt := 48) d_Model_threes_7 (by decide) (fun c => ?_) (fun c => ?_)
    · have hJ := hJ.1 c
      refine zq_iload_n d_Model_threes_48 rfl rfl ?_
      exact zq_iret d_Model_threes_49 rfl rfl (Nat.le_refl _) (Nat.le_refl _) ⟨_, _, rfl, rfl, hJ⟩
    · have hJ := hJ.2 c
      refine zq_aload_n d_Model_threes_10 rfl rfl ?_
      refine zm_getR fg_Model_60 d_Model_threes_11 zs_Model rfl ?_
      refine zq_iload_n d_Model_threes_14 rfl rfl ?_
      obtain ⟨hb, hJ⟩ := hJ
      refine zm_ald d_Model_threes_15 (rfl : zm_sh[50]? = some (.inl (0, 34, .inl (fun _ => 0)))) hb ?_
      refine zq_iload_n d_Model_threes_16 rfl rfl ?_
      refine zq_aload_n d_Model_threes_17 rfl rfl ?_
      refine zm_getI fg_Model_137 d_Model_threes_18 zs_Model rfl ?_
      refine zq_icmp_ne (tgt := 28) d_Model_threes_21 (by decide) (fun c => ?_) (fun c => ?_)
      · have hJ := hJ.1 c
        refine zq_iconst (v := 0) d_Model_threes_28 zk_i0 ?_
        refine zr_less (L' := [some (.ref 33), some (.int x1), some (.int x2)]) ⟨rfl, ⟨rfl, ⟨rfl, trivial⟩⟩⟩ ?_
        exact s_Model_threes_L29  ih  hJ
      · have hJ := hJ.2 c
        refine zq_iconst (v := 2) d_Model_threes_24 zk_i2 ?_
        refine zq_goto (tgt := 29) d_Model_threes_25 (by decide) ?_
        refine zr_less (L' := [some (.ref 33), some (.int x1), some (.int x2)]) ⟨rfl, ⟨rfl, ⟨rfl, trivial⟩⟩⟩ ?_
        exact s_Model_threes_L29  ih  hJ
set_option maxHeartbeats 400000 in
theorem s_Model_threes {g : zk_T} {K : Int32 → zm → Prop} {m : zm} (hJ : j_Model_threes  m K) : zq_Mt (zk_g g) y_Model_threes 0 0 0 [.ref 33] (zm_hp m) (zm_QI K) := by
  unfold j_Model_threes at hJ
  refine zq_meth (ini := false) rfl (fun h => by cases h) (Nat.le_of_ble_eq_true rfl) ?_
  refine zr_L (F := ("RiichiTableModel", prog_9_method_14_code, 3, (some .int), false, zq_rm 0 0 0)) (L' := [some (.ref 33), none, none]) rfl ?_
  refine zq_iconst (v := 0) d_Model_threes_0 zk_i0 ?_
  refine zr_istore_n (L' := [some (.ref 33), some (.int 0), none]) d_Model_threes_1 rfl (Nat.le_of_ble_eq_true rfl) rfl ?_
  refine zq_iconst (v := 0) d_Model_threes_2 zk_i0 ?_
  refine zr_istore_n (L' := [some (.ref 33), some (.int 0), some (.int 0)]) d_Model_threes_3 rfl (Nat.le_of_ble_eq_true rfl) rfl ?_
  refine zr_less (L' := [some (.ref 33), some (.int 0), some (.int 0)]) ⟨rfl, ⟨rfl, ⟨rfl, trivial⟩⟩⟩ ?_
  obtain ⟨n4, hJ⟩ := hJ
  exact s_Model_threes_L4   n4  hJ
set_option maxHeartbeats 400000 in
theorem s_Model_complete_L117 {g : zk_T} {a1 : Int32} {a2 : Int32} {R56 : Int32 → Int32 → zm → Prop} {K : Int32 → zm → Prop} (hR56 : ∀ {x3 : Int32} {x4 : Int32} {m : zm}, R56 x3 x4 m → zq_V (zk_g g) ("RiichiTableModel", prog_9_method_17_code, 6, (some .boolean), false, zq_rm 2 0 0) 0 0 56 [some (.ref 33), some (.int a1), some (.int a2), some (.int x3), some (.int x4), none] [] (zm_hp m) (zm_QI K)) {x3 : Int32} {x4 : Int32} {m : zm} (hJ : j_Model_complete_L117 a1 a2 R56 K x3 x4 m) : zq_V (zk_g g) ("RiichiTableModel", prog_9_method_17_code, 6, (some .boolean), false, zq_rm 2 0 0) 0 0 117 [some (.ref 33), some (.int a1), some (.int a2), some (.int x3), some (.int x4), none] [] (zm_hp m) (zm_QI K) := by
  unfold j_Model_complete_L117 at hJ
  refine zq_aload_n d_Model_complete_117 rfl rfl ?_
  refine zq_dup d_Model_complete_118 rfl ?_
  refine zm_getI fg_Model_137 d_Model_complete_119 zs_Model rfl ?_
  refine zq_iconst (v := 1) d_Model_complete_122 zk_i1 ?_
  refine zq_iadd d_Model_complete_123 ?_
  refine zr_putI fl_Model_137 d_Model_complete_124 zs_Model rfl rfl (fun m14 hm14 => ?_)
  have hJ := hJ m14 hm14
  refine zq_goto (tgt := 56) d_Model_complete_127 (by decide) ?_
  refine zr_less (L' := [some (.ref 33), some (.int a1), some (.int a2), some (.int x3), some (.int x4), none]) ⟨rfl, ⟨rfl, ⟨rfl, ⟨rfl, ⟨rfl, trivial⟩⟩⟩⟩⟩ ?_
  exact hR56  hJ
set_option maxHeartbeats 400000 in
theorem s_Model_complete_L73 {g : zk_T} {a1 : Int32} {a2 : Int32} {R56 : Int32 → Int32 → zm → Prop} {K : Int32 → zm → Prop} (hR56 : ∀ {x3 : Int32} {x4 : Int32} {m : zm}, R56 x3 x4 m → zq_V (zk_g g) ("RiichiTableModel", prog_9_method_17_code, 6, (some .boolean), false, zq_rm 2 0 0) 0 0 56 [some (.ref 33), some (.int a1), some (.int a2), some (.int x3), some (.int x4), none] [] (zm_hp m) (zm_QI K)) : ∀ (n : Nat) {x3 : Int32} {x4 : Int32} {x5 : Int32} {m : zm}, j_Model_complete_L73 a1 a2 R56 K n x3 x4 x5 m → zq_V (zk_g g) ("RiichiTableModel", prog_9_method_17_code, 6, (some .boolean), false, zq_rm 2 0 0) 0 0 73 [some (.ref 33), some (.int a1), some (.int a2), some (.int x3), some (.int x4), some (.int x5)] [] (zm_hp m) (zm_QI K) := by
  intro n
  induction n with
  | zero =>
    intro x3 x4 x5 m hJ
    exact False.elim hJ
  | succ n ih =>
    intro x3 x4 x5 m hJ
    rw [j_Model_complete_L73] at hJ
    refine zq_aload_n d_Model_complete_73 rfl rfl ?_
    refine zm_getR fg_Model_60 d_Model_complete_74 zs_Model rfl ?_
    refine zq_aload_n d_Model_complete_77 rfl rfl ?_
    refine zm_getI fg_Model_137 d_Model_complete_78 zs_Model rfl ?_
    obtain ⟨hb, hJ⟩ := hJ
    refine zm_ald d_Model_complete_81 (rfl : zm_sh[50]? = some (.inl (0, 34, .inl (fun _ => 0)))) hb ?_
    refine zq_iconst (v := 2) d_Model_complete_82 zk_i2 ?_
    refine zq_icmp_lt (tgt := 117) d_Model_complete_83 (by decide) (fun c => ?_) (fun c => ?_)
    · have hJ := hJ.1 c
      refine zr_less (L' := [some (.ref 33), some (.int a1), some (.int a2), some (.int x3), some (.int x4), none]) ⟨rfl, ⟨rfl, ⟨rfl, ⟨rfl, ⟨rfl, trivial⟩⟩⟩⟩⟩ ?_
      exact s_Model_complete_L117  hR56  hJ
    · have hJ := hJ.2 c
      refine zq_iload d_Model_complete_86 rfl ?_
      refine zq_iconst (v := 1) d_Model_complete_88 zk_i1 ?_
      refine zq_aload_n d_Model_complete_89 rfl rfl ?_
      refine zr_cvI (q := 33) (as := []) (st := [.int 1, .int x5]) d_Model_complete_90 cc_Model_164 cv_Model_threes zs_Model (s_Model_threes  hJ) rfl ⟨Nat.le_of_ble_eq_true rfl, Nat.le_of_ble_eq_true rfl⟩ (Nat.le_of_ble_eq_true rfl) ⟨Nat.le_refl _, Nat.le_refl _⟩ rfl (fun r10 m9 hJ => ?_)
      refine zq_ishl d_Model_complete_93 ?_
      refine zq_icmp_ge (tgt := 117) d_Model_complete_94 (by decide) (fun c => ?_) (fun c => ?_)
      · have hJ := hJ.1 c
        refine zr_less (L' := [some (.ref 33), some (.int a1), some (.int a2), some (.int x3), some (.int x4), none]) ⟨rfl, ⟨rfl, ⟨rfl, ⟨rfl, ⟨rfl, trivial⟩⟩⟩⟩⟩ ?_
        exact s_Model_complete_L117  hR56  hJ
      · have hJ := hJ.2 c
        refine zq_iload d_Model_complete_97 rfl ?_
        refine zq_if_ne (tgt := 117) d_Model_complete_99 (by decide) (fun c => ?_) (fun c => ?_)
        · have hJ := hJ.1 c
          refine zr_less (L' := [some (.ref 33), some (.int a1), some (.int a2), some (.int x3), some (.int x4), none]) ⟨rfl, ⟨rfl, ⟨rfl, ⟨rfl, ⟨rfl, trivial⟩⟩⟩⟩⟩ ?_
          exact s_Model_complete_L117  hR56  hJ
        · have hJ := hJ.2 c
          refine zq_aload_n d_Model_complete_102 rfl rfl ?_
          refine zq_iload d_Model_complete_103 rfl ?_
          refine zq_iload_n d_Model_complete_105 rfl rfl ?_
          refine zr_cvI (q := 33) (as := [.int x5, .int x3]) (st := []) d_Model_complete_106 cc_Model_167 cv_Model_apart zs_Model (s_Model_apart  hJ) rfl ⟨Nat.le_of_ble_eq_true rfl, Nat.le_of_ble_eq_true rfl⟩ (Nat.le_of_ble_eq_true rfl) ⟨Nat.le_refl _, Nat.le_refl _⟩ rfl (fun r12 m11 hJ => ?_)
          refine zr_istore (L' := [some (.ref 33), some (.int a1), some (.int a2), some (.int x3), some (.int r12), some (.int x5)]) d_Model_complete_109 (Nat.le_of_ble_eq_true rfl) rfl ?_
          refine zr_iinc (d' := 1) d_Model_complete_111 zk_i1 rfl (Nat.le_of_ble_eq_true rfl) (fun y13 hy13 => ?_)
          have hJ := hJ y13 hy13
          refine zr_L (L' := [some (.ref 33), some (.int a1), some (.int a2), some (.int x3), some (.int r12), some (.int y13)]) rfl ?_
          refine zq_goto (tgt := 73) d_Model_complete_114 (by decide) ?_
          refine zr_less (L' := [some (.ref 33), some (.int a1), some (.int a2), some (.int x3), some (.int r12), some (.int y13)]) ⟨rfl, ⟨rfl, ⟨rfl, ⟨rfl, ⟨rfl, ⟨rfl, trivial⟩⟩⟩⟩⟩⟩ ?_
          exact ih  hJ
set_option maxHeartbeats 400000 in
theorem s_Model_complete_L130 {g : zk_T} {a1 : Int32} {a2 : Int32} {K : Int32 → zm → Prop} {x4 : Int32} {m : zm} (hJ : j_Model_complete_L130 a1 a2  K x4 m) : zq_V (zk_g g) ("RiichiTableModel", prog_9_method_17_code, 6, (some .boolean), false, zq_rm 2 0 0) 0 0 130 [some (.ref 33), some (.int a1), some (.int a2), none, some (.int x4), none] [] (zm_hp m) (zm_QI K) := by
  unfold j_Model_complete_L130 at hJ
  refine zq_iload d_Model_complete_130 rfl ?_
  exact zq_iret d_Model_complete_132 rfl hJ.1.nar (Nat.le_refl _) (Nat.le_refl _) ⟨_, _, rfl, rfl, hJ.2⟩
set_option maxHeartbeats 400000 in
theorem s_Model_complete_L56 {g : zk_T} {a1 : Int32} {a2 : Int32} {K : Int32 → zm → Prop} : ∀ (n : Nat) {x3 : Int32} {x4 : Int32} {m : zm}, j_Model_complete_L56 a1 a2  K n x3 x4 m → zq_V (zk_g g) ("RiichiTableModel", prog_9_method_17_code, 6, (some .boolean), false, zq_rm 2 0 0) 0 0 56 [some (.ref 33), some (.int a1), some (.int a2), some (.int x3), some (.int x4), none] [] (zm_hp m) (zm_QI K) := by
  intro n
  induction n with
  | zero =>
    intro x3 x4 m hJ
    exact False.elim hJ
  | succ n ih =>
    intro x3 x4 m hJ
    rw [j_Model_complete_L56] at hJ
    refine zq_aload_n d_Model_complete_56 rfl rfl ?_
    refine zm_getI fg_Model_137 d_Model_complete_57 zs_Model rfl ?_
    refine zq_bipush (v := 34) d_Model_complete_60 zk_b34 ?_
    refine zq_icmp_ge (tgt := 130) d_Model_complete_62 (by decide) (fun c => ?_) (fun c => ?_)
    · have hJ := hJ.1 c
      refine zr_less (L' := [some (.ref 33), some (.int a1), some (.int a2), none, some (.int x4), none]) ⟨rfl, ⟨rfl, ⟨rfl, ⟨rfl, trivial⟩⟩⟩⟩ ?_
      exact s_Model_complete_L130    hJ
    · have hJ := hJ.2 c
      refine zq_iload d_Model_complete_65 rfl ?_
      refine zq_if_ne (tgt := 130) d_Model_complete_67 (by decide) (fun c => ?_) (fun c => ?_)
      · have hJ := hJ.1 c
        refine zr_less (L' := [some (.ref 33), some (.int a1), some (.int a2), none, some (.int x4), none]) ⟨rfl, ⟨rfl, ⟨rfl, ⟨rfl, trivial⟩⟩⟩⟩ ?_
        exact s_Model_complete_L130    hJ
      · have hJ := hJ.2 c
        refine zq_iconst (v := 0) d_Model_complete_70 zk_i0 ?_
        refine zr_istore (L' := [some (.ref 33), some (.int a1), some (.int a2), some (.int x3), some (.int x4), some (.int 0)]) d_Model_complete_71 (Nat.le_of_ble_eq_true rfl) rfl ?_
        refine zr_less (L' := [some (.ref 33), some (.int a1), some (.int a2), some (.int x3), some (.int x4), some (.int 0)]) ⟨rfl, ⟨rfl, ⟨rfl, ⟨rfl, ⟨rfl, ⟨rfl, trivial⟩⟩⟩⟩⟩⟩ ?_
        obtain ⟨n73, hJ⟩ := hJ
        exact s_Model_complete_L73  ih n73  hJ
set_option maxHeartbeats 400000 in
theorem s_Model_complete_L49 {g : zk_T} {a1 : Int32} {a2 : Int32} {K : Int32 → zm → Prop} {x3 : Int32} {t0 : Int32} {m : zm} (hJ : j_Model_complete_L49 a1 a2  K x3 t0 m) : zq_V (zk_g g) ("RiichiTableModel", prog_9_method_17_code, 6, (some .boolean), false, zq_rm 2 0 0) 0 0 49 [some (.ref 33), some (.int a1), some (.int a2), some (.int x3), none, none] [.int t0] (zm_hp m) (zm_QI K) := by
  unfold j_Model_complete_L49 at hJ
  refine zr_istore (L' := [some (.ref 33), some (.int a1), some (.int a2), some (.int x3), some (.int t0), none]) d_Model_complete_49 (Nat.le_of_ble_eq_true rfl) rfl ?_
  refine zq_aload_n d_Model_complete_51 rfl rfl ?_
  refine zq_iconst (v := 0) d_Model_complete_52 zk_i0 ?_
  refine zr_putI fl_Model_137 d_Model_complete_53 zs_Model rfl rfl (fun m8 hm8 => ?_)
  have hJ := hJ m8 hm8
  refine zr_less (L' := [some (.ref 33), some (.int a1), some (.int a2), some (.int x3), some (.int t0), none]) ⟨rfl, ⟨rfl, ⟨rfl, ⟨rfl, ⟨rfl, trivial⟩⟩⟩⟩⟩ ?_
  obtain ⟨n56, hJ⟩ := hJ
  exact s_Model_complete_L56   n56  hJ
set_option maxHeartbeats 400000 in
theorem s_Model_complete_L44 {g : zk_T} {a1 : Int32} {a2 : Int32} {K : Int32 → zm → Prop} {x3 : Int32} {m : zm} (hJ : j_Model_complete_L44 a1 a2  K x3 m) : zq_V (zk_g g) ("RiichiTableModel", prog_9_method_17_code, 6, (some .boolean), false, zq_rm 2 0 0) 0 0 44 [some (.ref 33), some (.int a1), some (.int a2), some (.int x3), none, none] [] (zm_hp m) (zm_QI K) := by
  unfold j_Model_complete_L44 at hJ
  refine zq_iconst (v := 1) d_Model_complete_44 zk_i1 ?_
  refine zq_goto (tgt := 49) d_Model_complete_45 (by decide) ?_
  refine zr_less (L' := [some (.ref 33), some (.int a1), some (.int a2), some (.int x3), none, none]) ⟨rfl, ⟨rfl, ⟨rfl, ⟨rfl, trivial⟩⟩⟩⟩ ?_
  exact s_Model_complete_L49    hJ
set_option maxHeartbeats 400000 in
theorem s_Model_complete_L48 {g : zk_T} {a1 : Int32} {a2 : Int32} {K : Int32 → zm → Prop} {x3 : Int32} {m : zm} (hJ : j_Model_complete_L48 a1 a2  K x3 m) : zq_V (zk_g g) ("RiichiTableModel", prog_9_method_17_code, 6, (some .boolean), false, zq_rm 2 0 0) 0 0 48 [some (.ref 33), some (.int a1), some (.int a2), some (.int x3), none, none] [] (zm_hp m) (zm_QI K) := by
  unfold j_Model_complete_L48 at hJ
  refine zq_iconst (v := 0) d_Model_complete_48 zk_i0 ?_
  refine zr_less (L' := [some (.ref 33), some (.int a1), some (.int a2), some (.int x3), none, none]) ⟨rfl, ⟨rfl, ⟨rfl, ⟨rfl, trivial⟩⟩⟩⟩ ?_
  exact s_Model_complete_L49    hJ
set_option maxHeartbeats 400000 in
theorem s_Model_complete {g : zk_T} {a1 : Int32} {a2 : Int32} {K : Int32 → zm → Prop} {m : zm} (hJ : j_Model_complete a1 a2 m K) : zq_Mt (zk_g g) y_Model_complete 2 0 0 [.ref 33, .int a1, .int a2] (zm_hp m) (zm_QI K) := by
  unfold j_Model_complete at hJ
  refine zq_meth (ini := false) rfl (fun h => by cases h) (Nat.le_of_ble_eq_true rfl) ?_
  refine zr_L (F := ("RiichiTableModel", prog_9_method_17_code, 6, (some .boolean), false, zq_rm 2 0 0)) (L' := [some (.ref 33), some (.int a1), some (.int a2), none, none, none]) rfl ?_
  refine zq_iconst (v := 4) d_Model_complete_0 zk_i4 ?_
  refine zq_aload_n d_Model_complete_1 rfl rfl ?_
  refine zm_getR fg_Model_19 d_Model_complete_2 zs_Model rfl ?_
  refine zq_iload_n d_Model_complete_5 rfl rfl ?_
  obtain ⟨hb, hJ⟩ := hJ
  refine zm_ald d_Model_complete_6 (rfl : zm_sh[37]? = some (.inl (0, 4, .inl (fun _ => 0)))) hb ?_
  refine zq_isub d_Model_complete_7 ?_
  refine zr_topi (fun y1 hy1 => ?_)
  have hJ := hJ y1 hy1
  refine zr_istore_n (L' := [some (.ref 33), some (.int a1), some (.int a2), some (.int y1), none, none]) d_Model_complete_8 rfl (Nat.le_of_ble_eq_true rfl) rfl ?_
  refine zq_aload_n d_Model_complete_9 rfl rfl ?_
  refine zq_iload_n d_Model_complete_10 rfl rfl ?_
  refine zq_iload_n d_Model_complete_11 rfl rfl ?_
  refine zr_cvI (q := 33) (as := [.int a1, .int a2]) (st := []) d_Model_complete_12 cc_Model_153 cv_Model_load zs_Model (s_Model_load  hJ) rfl ⟨Nat.le_of_ble_eq_true rfl, Nat.le_of_ble_eq_true rfl⟩ (Nat.le_of_ble_eq_true rfl) ⟨Nat.le_refl _, Nat.le_refl _⟩ rfl (fun r3 m2 hJ => ?_)
  refine zq_iconst (v := 3) d_Model_complete_15 zk_i3 ?_
  refine zq_iload_n d_Model_complete_16 rfl rfl ?_
  refine zq_imul d_Model_complete_17 ?_
  refine zq_iconst (v := 2) d_Model_complete_18 zk_i2 ?_
  refine zq_iadd d_Model_complete_19 ?_
  refine zq_icmp_eq (tgt := 25) d_Model_complete_20 (by decide) (fun c => ?_) (fun c => ?_)
  · have hJ := hJ.1 c
    refine zq_iload_n d_Model_complete_25 rfl rfl ?_
    refine zq_iconst (v := 4) d_Model_complete_26 zk_i4 ?_
    refine zq_icmp_ne (tgt := 48) d_Model_complete_27 (by decide) (fun c => ?_) (fun c => ?_)
    · have hJ := hJ.1 c
      refine zr_less (L' := [some (.ref 33), some (.int a1), some (.int a2), some (.int y1), none, none]) ⟨rfl, ⟨rfl, ⟨rfl, ⟨rfl, trivial⟩⟩⟩⟩ ?_
      exact s_Model_complete_L48    hJ
    · have hJ := hJ.2 c
      refine zq_aload_n d_Model_complete_30 rfl rfl ?_
      refine zr_cvI (q := 33) (as := []) (st := []) d_Model_complete_31 cc_Model_157 cv_Model_isPairs zs_Model (s_Model_isPairs  hJ) rfl ⟨Nat.le_of_ble_eq_true rfl, Nat.le_of_ble_eq_true rfl⟩ (Nat.le_of_ble_eq_true rfl) ⟨Nat.le_refl _, Nat.le_refl _⟩ rfl (fun r5 m4 hJ => ?_)
      refine zq_if_ne (tgt := 44) d_Model_complete_34 (by decide) (fun c => ?_) (fun c => ?_)
      · have hJ := hJ.1 c
        refine zr_less (L' := [some (.ref 33), some (.int a1), some (.int a2), some (.int y1), none, none]) ⟨rfl, ⟨rfl, ⟨rfl, ⟨rfl, trivial⟩⟩⟩⟩ ?_
        exact s_Model_complete_L44    hJ
      · have hJ := hJ.2 c
        refine zq_aload_n d_Model_complete_37 rfl rfl ?_
        refine zr_cvI (q := 33) (as := []) (st := []) d_Model_complete_38 cc_Model_161 cv_Model_isOrphans zs_Model (s_Model_isOrphans  hJ) rfl ⟨Nat.le_of_ble_eq_true rfl, Nat.le_of_ble_eq_true rfl⟩ (Nat.le_of_ble_eq_true rfl) ⟨Nat.le_refl _, Nat.le_refl _⟩ rfl (fun r7 m6 hJ => ?_)
        refine zq_if_eq (tgt := 48) d_Model_complete_41 (by decide) (fun c => ?_) (fun c => ?_)
        · have hJ := hJ.1 c
          refine zr_less (L' := [some (.ref 33), some (.int a1), some (.int a2), some (.int y1), none, none]) ⟨rfl, ⟨rfl, ⟨rfl, ⟨rfl, trivial⟩⟩⟩⟩ ?_
          exact s_Model_complete_L48    hJ
        · have hJ := hJ.2 c
          refine zr_less (L' := [some (.ref 33), some (.int a1), some (.int a2), some (.int y1), none, none]) ⟨rfl, ⟨rfl, ⟨rfl, ⟨rfl, trivial⟩⟩⟩⟩ ?_
          exact s_Model_complete_L44    hJ
  · have hJ := hJ.2 c
    refine zq_iconst (v := 0) d_Model_complete_23 zk_i0 ?_
    exact zq_iret d_Model_complete_24 rfl (zm_isB.nar (Or.inl rfl)) (Nat.le_refl _) (Nat.le_refl _) ⟨_, _, rfl, rfl, hJ⟩
set_option maxHeartbeats 400000 in
theorem s_Model_held_L126 {g : zk_T} {a1 : Int32} {a2 : Int32} {R17 : Int32 → Int32 → zm → Prop} {K : Int32 → zm → Prop} (hR17 : ∀ {x3 : Int32} {x4 : Int32} {m : zm}, R17 x3 x4 m → zq_V (zk_g g) ("RiichiTableModel", prog_9_method_18_code, 7, (some .int), false, zq_rm 0 0 0) 0 0 17 [some (.ref 33), some (.int a1), some (.int a2), some (.int x3), some (.int x4), none, none] [] (zm_hp m) (zm_QI K)) {x4 : Int32} {t0 : Int32} {t1 : Int32} {m : zm} (hJ : j_Model_held_L126 a1 a2 R17 K x4 t0 t1 m) : zq_V (zk_g g) ("RiichiTableModel", prog_9_method_18_code, 7, (some .int), false, zq_rm 0 0 0) 0 0 126 [some (.ref 33), some (.int a1), some (.int a2), none, some (.int x4), none, none] [.int t0, .int t1] (zm_hp m) (zm_QI K) := by
  unfold j_Model_held_L126 at hJ
  refine zq_iadd d_Model_held_126 ?_
  refine zr_topi (fun y4 hy4 => ?_)
  have hJ := hJ y4 hy4
  refine zr_istore_n (L' := [some (.ref 33), some (.int a1), some (.int a2), some (.int y4), some (.int x4), none, none]) d_Model_held_127 rfl (Nat.le_of_ble_eq_true rfl) rfl ?_
  refine zr_iinc (d' := 1) d_Model_held_128 zk_i1 rfl (Nat.le_of_ble_eq_true rfl) (fun y5 hy5 => ?_)
  have hJ := hJ y5 hy5
  refine zr_L (L' := [some (.ref 33), some (.int a1), some (.int a2), some (.int y4), some (.int y5), none, none]) rfl ?_
  refine zq_goto (tgt := 17) d_Model_held_131 (by decide) ?_
  refine zr_less (L' := [some (.ref 33), some (.int a1), some (.int a2), some (.int y4), some (.int y5), none, none]) ⟨rfl, ⟨rfl, ⟨rfl, ⟨rfl, ⟨rfl, trivial⟩⟩⟩⟩⟩ ?_
  exact hR17  hJ
set_option maxHeartbeats 400000 in
theorem s_Model_held_L84 {g : zk_T} {a1 : Int32} {a2 : Int32} {R17 : Int32 → Int32 → zm → Prop} {K : Int32 → zm → Prop} (hR17 : ∀ {x3 : Int32} {x4 : Int32} {m : zm}, R17 x3 x4 m → zq_V (zk_g g) ("RiichiTableModel", prog_9_method_18_code, 7, (some .int), false, zq_rm 0 0 0) 0 0 17 [some (.ref 33), some (.int a1), some (.int a2), some (.int x3), some (.int x4), none, none] [] (zm_hp m) (zm_QI K)) {x3 : Int32} {x4 : Int32} {t0 : Int32} {m : zm} (hJ : j_Model_held_L84 a1 a2 R17 K x3 x4 t0 m) : zq_V (zk_g g) ("RiichiTableModel", prog_9_method_18_code, 7, (some .int), false, zq_rm 0 0 0) 0 0 84 [some (.ref 33), some (.int a1), some (.int a2), some (.int x3), some (.int x4), none, none] [.int t0] (zm_hp m) (zm_QI K) := by
  unfold j_Model_held_L84 at hJ
  refine zr_istore (L' := [some (.ref 33), some (.int a1), some (.int a2), some (.int x3), some (.int x4), none, some (.int t0)]) d_Model_held_84 (Nat.le_of_ble_eq_true rfl) rfl ?_
  refine zq_iload_n d_Model_held_86 rfl rfl ?_
  refine zq_iload d_Model_held_87 rfl ?_
  refine zq_if_ne (tgt := 96) d_Model_held_89 (by decide) (fun c => ?_) (fun c => ?_)
  · have hJ := hJ.1 c
    refine zq_aload_n d_Model_held_96 rfl rfl ?_
    refine zm_getR fg_Model_25 d_Model_held_97 zs_Model rfl ?_
    refine zq_iload d_Model_held_100 rfl ?_
    obtain ⟨hb, hJ⟩ := hJ
    refine zm_ald d_Model_held_102 (rfl : zm_sh[39]? = some (.inl (0, 16, .inl (fun _ => 0)))) hb ?_
    refine zq_if_ne (tgt := 110) d_Model_held_103 (by decide) (fun c => ?_) (fun c => ?_)
    · have hJ := hJ.1 c
      refine zq_aload_n d_Model_held_110 rfl rfl ?_
      refine zm_getR fg_Model_25 d_Model_held_111 zs_Model rfl ?_
      refine zq_iload d_Model_held_114 rfl ?_
      obtain ⟨hb, hJ⟩ := hJ
      refine zm_ald d_Model_held_116 (rfl : zm_sh[39]? = some (.inl (0, 16, .inl (fun _ => 0)))) hb ?_
      refine zq_iconst (v := 1) d_Model_held_117 zk_i1 ?_
      refine zq_icmp_ne (tgt := 125) d_Model_held_118 (by decide) (fun c => ?_) (fun c => ?_)
      · have hJ := hJ.1 c
        refine zq_iconst (v := 4) d_Model_held_125 zk_i4 ?_
        refine zr_less (L' := [some (.ref 33), some (.int a1), some (.int a2), none, some (.int x4), none, none]) ⟨rfl, ⟨rfl, ⟨rfl, ⟨rfl, trivial⟩⟩⟩⟩ ?_
        exact s_Model_held_L126  hR17  hJ
      · have hJ := hJ.2 c
        refine zq_iconst (v := 3) d_Model_held_121 zk_i3 ?_
        refine zq_goto (tgt := 126) d_Model_held_122 (by decide) ?_
        refine zr_less (L' := [some (.ref 33), some (.int a1), some (.int a2), none, some (.int x4), none, none]) ⟨rfl, ⟨rfl, ⟨rfl, ⟨rfl, trivial⟩⟩⟩⟩ ?_
        exact s_Model_held_L126  hR17  hJ
    · have hJ := hJ.2 c
      refine zq_iconst (v := 1) d_Model_held_106 zk_i1 ?_
      refine zq_goto (tgt := 126) d_Model_held_107 (by decide) ?_
      refine zr_less (L' := [some (.ref 33), some (.int a1), some (.int a2), none, some (.int x4), none, none]) ⟨rfl, ⟨rfl, ⟨rfl, ⟨rfl, trivial⟩⟩⟩⟩ ?_
      exact s_Model_held_L126  hR17  hJ
  · have hJ := hJ.2 c
    refine zq_iconst (v := 0) d_Model_held_92 zk_i0 ?_
    refine zq_goto (tgt := 126) d_Model_held_93 (by decide) ?_
    refine zr_less (L' := [some (.ref 33), some (.int a1), some (.int a2), none, some (.int x4), none, none]) ⟨rfl, ⟨rfl, ⟨rfl, ⟨rfl, trivial⟩⟩⟩⟩ ?_
    exact s_Model_held_L126  hR17  hJ
set_option maxHeartbeats 400000 in
theorem s_Model_held_L69 {g : zk_T} {a1 : Int32} {a2 : Int32} {R17 : Int32 → Int32 → zm → Prop} {K : Int32 → zm → Prop} (hR17 : ∀ {x3 : Int32} {x4 : Int32} {m : zm}, R17 x3 x4 m → zq_V (zk_g g) ("RiichiTableModel", prog_9_method_18_code, 7, (some .int), false, zq_rm 0 0 0) 0 0 17 [some (.ref 33), some (.int a1), some (.int a2), some (.int x3), some (.int x4), none, none] [] (zm_hp m) (zm_QI K)) {x3 : Int32} {x4 : Int32} {m : zm} (hJ : j_Model_held_L69 a1 a2 R17 K x3 x4 m) : zq_V (zk_g g) ("RiichiTableModel", prog_9_method_18_code, 7, (some .int), false, zq_rm 0 0 0) 0 0 69 [some (.ref 33), some (.int a1), some (.int a2), some (.int x3), some (.int x4), none, none] [] (zm_hp m) (zm_QI K) := by
  unfold j_Model_held_L69 at hJ
  refine zq_iconst (v := 0) d_Model_held_69 zk_i0 ?_
  refine zq_goto (tgt := 84) d_Model_held_70 (by decide) ?_
  refine zr_less (L' := [some (.ref 33), some (.int a1), some (.int a2), some (.int x3), some (.int x4), none, none]) ⟨rfl, ⟨rfl, ⟨rfl, ⟨rfl, ⟨rfl, trivial⟩⟩⟩⟩⟩ ?_
  exact s_Model_held_L84  hR17  hJ
set_option maxHeartbeats 400000 in
theorem s_Model_held_L17 {g : zk_T} {a1 : Int32} {a2 : Int32} {K : Int32 → zm → Prop} : ∀ (n : Nat) {x3 : Int32} {x4 : Int32} {m : zm}, j_Model_held_L17 a1 a2  K n x3 x4 m → zq_V (zk_g g) ("RiichiTableModel", prog_9_method_18_code, 7, (some .int), false, zq_rm 0 0 0) 0 0 17 [some (.ref 33), some (.int a1), some (.int a2), some (.int x3), some (.int x4), none, none] [] (zm_hp m) (zm_QI K) := by
  intro n
  induction n with
  | zero =>
    intro x3 x4 m hJ
    exact False.elim hJ
  | succ n ih =>
    intro x3 x4 m hJ
    rw [j_Model_held_L17] at hJ
    refine zq_iload d_Model_held_17 rfl ?_
    refine zq_iconst (v := 4) d_Model_held_19 zk_i4 ?_
    refine zq_iload_n d_Model_held_20 rfl rfl ?_
    refine zq_imul d_Model_held_21 ?_
    refine zq_aload_n d_Model_held_22 rfl rfl ?_
    refine zm_getR fg_Model_19 d_Model_held_23 zs_Model rfl ?_
    refine zq_iload_n d_Model_held_26 rfl rfl ?_
    obtain ⟨hb, hJ⟩ := hJ
    refine zm_ald d_Model_held_27 (rfl : zm_sh[37]? = some (.inl (0, 4, .inl (fun _ => 0)))) hb ?_
    refine zq_iadd d_Model_held_28 ?_
    refine zq_icmp_ge (tgt := 134) d_Model_held_29 (by decide) (fun c => ?_) (fun c => ?_)
    · have hJ := hJ.1 c
      refine zq_iload_n d_Model_held_134 rfl rfl ?_
      exact zq_iret d_Model_held_135 rfl rfl (Nat.le_refl _) (Nat.le_refl _) ⟨_, _, rfl, rfl, hJ⟩
    · have hJ := hJ.2 c
      refine zq_aload_n d_Model_held_32 rfl rfl ?_
      refine zm_getR fg_Model_22 d_Model_held_33 zs_Model rfl ?_
      refine zq_iload d_Model_held_36 rfl ?_
      obtain ⟨hb, hJ⟩ := hJ
      refine zm_ald d_Model_held_38 (rfl : zm_sh[38]? = some (.inl (0, 16, .inl (fun _ => 0)))) hb ?_
      refine zr_topi (fun y3 hy3 => ?_)
      have hJ := hJ y3 hy3
      refine zr_istore (L' := [some (.ref 33), some (.int a1), some (.int a2), some (.int x3), some (.int x4), some (.int y3), none]) d_Model_held_39 (Nat.le_of_ble_eq_true rfl) rfl ?_
      refine zq_aload_n d_Model_held_41 rfl rfl ?_
      refine zm_getR fg_Model_25 d_Model_held_42 zs_Model rfl ?_
      refine zq_iload d_Model_held_45 rfl ?_
      obtain ⟨hb, hJ⟩ := hJ
      refine zm_ald d_Model_held_47 (rfl : zm_sh[39]? = some (.inl (0, 16, .inl (fun _ => 0)))) hb ?_
      refine zq_if_ne (tgt := 73) d_Model_held_48 (by decide) (fun c => ?_) (fun c => ?_)
      · have hJ := hJ.1 c
        refine zq_iload_n d_Model_held_73 rfl rfl ?_
        refine zq_iload d_Model_held_74 rfl ?_
        refine zq_icmp_ne (tgt := 83) d_Model_held_76 (by decide) (fun c => ?_) (fun c => ?_)
        · have hJ := hJ.1 c
          refine zq_iconst (v := 0) d_Model_held_83 zk_i0 ?_
          refine zr_less (L' := [some (.ref 33), some (.int a1), some (.int a2), some (.int x3), some (.int x4), none, none]) ⟨rfl, ⟨rfl, ⟨rfl, ⟨rfl, ⟨rfl, trivial⟩⟩⟩⟩⟩ ?_
          exact s_Model_held_L84  ih  hJ
        · have hJ := hJ.2 c
          refine zq_iconst (v := 1) d_Model_held_79 zk_i1 ?_
          refine zq_goto (tgt := 84) d_Model_held_80 (by decide) ?_
          refine zr_less (L' := [some (.ref 33), some (.int a1), some (.int a2), some (.int x3), some (.int x4), none, none]) ⟨rfl, ⟨rfl, ⟨rfl, ⟨rfl, ⟨rfl, trivial⟩⟩⟩⟩⟩ ?_
          exact s_Model_held_L84  ih  hJ
      · have hJ := hJ.2 c
        refine zq_iload_n d_Model_held_51 rfl rfl ?_
        refine zq_iload d_Model_held_52 rfl ?_
        refine zq_icmp_lt (tgt := 69) d_Model_held_54 (by decide) (fun c => ?_) (fun c => ?_)
        · have hJ := hJ.1 c
          refine zr_less (L' := [some (.ref 33), some (.int a1), some (.int a2), some (.int x3), some (.int x4), none, none]) ⟨rfl, ⟨rfl, ⟨rfl, ⟨rfl, ⟨rfl, trivial⟩⟩⟩⟩⟩ ?_
          exact s_Model_held_L69  ih  hJ
        · have hJ := hJ.2 c
          refine zq_iload_n d_Model_held_57 rfl rfl ?_
          refine zq_iload d_Model_held_58 rfl ?_
          refine zq_iconst (v := 2) d_Model_held_60 zk_i2 ?_
          refine zq_iadd d_Model_held_61 ?_
          refine zq_icmp_gt (tgt := 69) d_Model_held_62 (by decide) (fun c => ?_) (fun c => ?_)
          · have hJ := hJ.1 c
            refine zr_less (L' := [some (.ref 33), some (.int a1), some (.int a2), some (.int x3), some (.int x4), none, none]) ⟨rfl, ⟨rfl, ⟨rfl, ⟨rfl, ⟨rfl, trivial⟩⟩⟩⟩⟩ ?_
            exact s_Model_held_L69  ih  hJ
          · have hJ := hJ.2 c
            refine zq_iconst (v := 1) d_Model_held_65 zk_i1 ?_
            refine zq_goto (tgt := 84) d_Model_held_66 (by decide) ?_
            refine zr_less (L' := [some (.ref 33), some (.int a1), some (.int a2), some (.int x3), some (.int x4), none, none]) ⟨rfl, ⟨rfl, ⟨rfl, ⟨rfl, ⟨rfl, trivial⟩⟩⟩⟩⟩ ?_
            exact s_Model_held_L84  ih  hJ
set_option maxHeartbeats 400000 in
theorem s_Model_held {g : zk_T} {a1 : Int32} {a2 : Int32} {K : Int32 → zm → Prop} {m : zm} (hJ : j_Model_held a1 a2 m K) : zq_Mt (zk_g g) y_Model_held 0 0 0 [.ref 33, .int a1, .int a2] (zm_hp m) (zm_QI K) := by
  unfold j_Model_held at hJ
  refine zq_meth (ini := false) rfl (fun h => by cases h) (Nat.le_of_ble_eq_true rfl) ?_
  refine zr_L (F := ("RiichiTableModel", prog_9_method_18_code, 7, (some .int), false, zq_rm 0 0 0)) (L' := [some (.ref 33), some (.int a1), some (.int a2), none, none, none, none]) rfl ?_
  refine zq_aload_n d_Model_held_0 rfl rfl ?_
  refine zm_getR fg_Model_16 d_Model_held_1 zs_Model rfl ?_
  refine zq_bipush (v := 34) d_Model_held_4 zk_b34 ?_
  refine zq_iload_n d_Model_held_6 rfl rfl ?_
  refine zq_imul d_Model_held_7 ?_
  refine zq_iload_n d_Model_held_8 rfl rfl ?_
  refine zq_iadd d_Model_held_9 ?_
  obtain ⟨hb, hJ⟩ := hJ
  refine zm_ald d_Model_held_10 (rfl : zm_sh[36]? = some (.inl (0, 136, .inl (fun _ => 0)))) hb ?_
  refine zr_topi (fun y1 hy1 => ?_)
  have hJ := hJ y1 hy1
  refine zr_istore_n (L' := [some (.ref 33), some (.int a1), some (.int a2), some (.int y1), none, none, none]) d_Model_held_11 rfl (Nat.le_of_ble_eq_true rfl) rfl ?_
  refine zq_iconst (v := 4) d_Model_held_12 zk_i4 ?_
  refine zq_iload_n d_Model_held_13 rfl rfl ?_
  refine zq_imul d_Model_held_14 ?_
  refine zr_topi (fun y2 hy2 => ?_)
  have hJ := hJ y2 hy2
  refine zr_istore (L' := [some (.ref 33), some (.int a1), some (.int a2), some (.int y1), some (.int y2), none, none]) d_Model_held_15 (Nat.le_of_ble_eq_true rfl) rfl ?_
  refine zr_less (L' := [some (.ref 33), some (.int a1), some (.int a2), some (.int y1), some (.int y2), none, none]) ⟨rfl, ⟨rfl, ⟨rfl, ⟨rfl, ⟨rfl, trivial⟩⟩⟩⟩⟩ ?_
  obtain ⟨n17, hJ⟩ := hJ
  exact s_Model_held_L17   n17  hJ
set_option maxHeartbeats 400000 in
theorem s_Model_waitsOf_L56 {g : zk_T} {a1 : Int32} {R13 : Int64 → Int32 → Int32 → zm → Prop} {K : Int64 → zm → Prop} (hR13 : ∀ {x2 : Int64} {x4 : Int32} {x5 : Int32} {m : zm}, R13 x2 x4 x5 m → zq_V (zk_g g) ("RiichiTableModel", prog_9_method_19_code, 6, (some .long), false, zq_rm 3 0 0) 0 0 13 [some (.ref 33), some (.int a1), some (.long x2), none, some (.int x4), some (.int x5)] [] (zm_hp m) (zm_QL K)) {x2 : Int64} {x4 : Int32} {x5 : Int32} {m : zm} (hJ : j_Model_waitsOf_L56 a1 R13 K x2 x4 x5 m) : zq_V (zk_g g) ("RiichiTableModel", prog_9_method_19_code, 6, (some .long), false, zq_rm 3 0 0) 0 0 56 [some (.ref 33), some (.int a1), some (.long x2), none, some (.int x4), some (.int x5)] [] (zm_hp m) (zm_QL K) := by
  unfold j_Model_waitsOf_L56 at hJ
  refine zr_iinc (d' := 1) d_Model_waitsOf_56 zk_i1 rfl (Nat.le_of_ble_eq_true rfl) (fun y8 hy8 => ?_)
  have hJ := hJ y8 hy8
  refine zr_L (L' := [some (.ref 33), some (.int a1), some (.long x2), none, some (.int x4), some (.int y8)]) rfl ?_
  refine zq_goto (tgt := 13) d_Model_waitsOf_59 (by decide) ?_
  refine zr_less (L' := [some (.ref 33), some (.int a1), some (.long x2), none, some (.int x4), some (.int y8)]) ⟨rfl, ⟨rfl, ⟨rfl, ⟨rfl, ⟨rfl, trivial⟩⟩⟩⟩⟩ ?_
  exact hR13  hJ
set_option maxHeartbeats 400000 in
theorem s_Model_waitsOf_L62 {g : zk_T} {a1 : Int32} {K : Int64 → zm → Prop} {x2 : Int64} {m : zm} (hJ : j_Model_waitsOf_L62 a1  K x2 m) : zq_V (zk_g g) ("RiichiTableModel", prog_9_method_19_code, 6, (some .long), false, zq_rm 3 0 0) 0 0 62 [some (.ref 33), some (.int a1), some (.long x2), none, none, none] [] (zm_hp m) (zm_QL K) := by
  unfold j_Model_waitsOf_L62 at hJ
  refine zq_lload_n d_Model_waitsOf_62 rfl rfl ?_
  exact zq_lret d_Model_waitsOf_63 rfl (Nat.le_refl _) (Nat.le_refl _) ⟨_, _, rfl, rfl, hJ⟩
set_option maxHeartbeats 400000 in
theorem s_Model_waitsOf_L13 {g : zk_T} {a1 : Int32} {K : Int64 → zm → Prop} : ∀ (n : Nat) {x2 : Int64} {x4 : Int32} {x5 : Int32} {m : zm}, j_Model_waitsOf_L13 a1  K n x2 x4 x5 m → zq_V (zk_g g) ("RiichiTableModel", prog_9_method_19_code, 6, (some .long), false, zq_rm 3 0 0) 0 0 13 [some (.ref 33), some (.int a1), some (.long x2), none, some (.int x4), some (.int x5)] [] (zm_hp m) (zm_QL K) := by
  intro n
  induction n with
  | zero =>
    intro x2 x4 x5 m hJ
    exact False.elim hJ
  | succ n ih =>
    intro x2 x4 x5 m hJ
    rw [j_Model_waitsOf_L13] at hJ
    refine zq_iload d_Model_waitsOf_13 rfl ?_
    refine zq_bipush (v := 34) d_Model_waitsOf_15 zk_b34 ?_
    refine zq_icmp_ge (tgt := 62) d_Model_waitsOf_17 (by decide) (fun c => ?_) (fun c => ?_)
    · have hJ := hJ.1 c
      refine zr_less (L' := [some (.ref 33), some (.int a1), some (.long x2), none, none, none]) ⟨rfl, ⟨rfl, ⟨rfl, trivial⟩⟩⟩ ?_
      exact s_Model_waitsOf_L62    hJ
    · have hJ := hJ.2 c
      refine zq_iload d_Model_waitsOf_20 rfl ?_
      refine zq_iconst (v := 3) d_Model_waitsOf_22 zk_i3 ?_
      refine zq_irem d_Model_waitsOf_23 (by decide) ?_
      refine zq_iconst (v := 1) d_Model_waitsOf_24 zk_i1 ?_
      refine zq_icmp_ne (tgt := 62) d_Model_waitsOf_25 (by decide) (fun c => ?_) (fun c => ?_)
      · have hJ := hJ.1 c
        refine zr_less (L' := [some (.ref 33), some (.int a1), some (.long x2), none, none, none]) ⟨rfl, ⟨rfl, ⟨rfl, trivial⟩⟩⟩ ?_
        exact s_Model_waitsOf_L62    hJ
      · have hJ := hJ.2 c
        refine zq_aload_n d_Model_waitsOf_28 rfl rfl ?_
        refine zq_iload_n d_Model_waitsOf_29 rfl rfl ?_
        refine zq_iload d_Model_waitsOf_30 rfl ?_
        refine zr_cvI (q := 33) (as := [.int a1, .int x5]) (st := []) d_Model_waitsOf_32 cc_Model_171 cv_Model_held zs_Model (s_Model_held  hJ) rfl ⟨Nat.le_of_ble_eq_true rfl, Nat.le_of_ble_eq_true rfl⟩ (Nat.le_of_ble_eq_true rfl) ⟨Nat.le_refl _, Nat.le_refl _⟩ rfl (fun r4 m3 hJ => ?_)
        refine zq_iconst (v := 4) d_Model_waitsOf_35 zk_i4 ?_
        refine zq_icmp_ge (tgt := 56) d_Model_waitsOf_36 (by decide) (fun c => ?_) (fun c => ?_)
        · have hJ := hJ.1 c
          refine zr_less (L' := [some (.ref 33), some (.int a1), some (.long x2), none, some (.int x4), some (.int x5)]) ⟨rfl, ⟨rfl, ⟨rfl, ⟨rfl, ⟨rfl, trivial⟩⟩⟩⟩⟩ ?_
          exact s_Model_waitsOf_L56  ih  hJ
        · have hJ := hJ.2 c
          refine zq_aload_n d_Model_waitsOf_39 rfl rfl ?_
          refine zq_iload_n d_Model_waitsOf_40 rfl rfl ?_
          refine zq_iload d_Model_waitsOf_41 rfl ?_
          refine zr_cvI (q := 33) (as := [.int a1, .int x5]) (st := []) d_Model_waitsOf_43 cc_Model_174 cv_Model_complete zs_Model (s_Model_complete  hJ) rfl ⟨Nat.le_of_ble_eq_true rfl, Nat.le_of_ble_eq_true rfl⟩ (Nat.le_of_ble_eq_true rfl) ⟨Nat.le_refl _, Nat.le_refl _⟩ rfl (fun r6 m5 hJ => ?_)
          refine zq_if_eq (tgt := 56) d_Model_waitsOf_46 (by decide) (fun c => ?_) (fun c => ?_)
          · have hJ := hJ.1 c
            refine zr_less (L' := [some (.ref 33), some (.int a1), some (.long x2), none, some (.int x4), some (.int x5)]) ⟨rfl, ⟨rfl, ⟨rfl, ⟨rfl, ⟨rfl, trivial⟩⟩⟩⟩⟩ ?_
            exact s_Model_waitsOf_L56  ih  hJ
          · have hJ := hJ.2 c
            refine zq_lload_n d_Model_waitsOf_49 rfl rfl ?_
            refine zq_lconst (v := 1) d_Model_waitsOf_50 zk_l1 ?_
            refine zq_iload d_Model_waitsOf_51 rfl ?_
            refine zq_lshl d_Model_waitsOf_53 ?_
            refine zq_lor d_Model_waitsOf_54 ?_
            refine zr_topl (fun y7 hy7 => ?_)
            have hJ := hJ y7 hy7
            refine zr_lstore_n (L' := [some (.ref 33), some (.int a1), some (.long y7), none, some (.int x4), some (.int x5)]) d_Model_waitsOf_55 rfl (Nat.le_of_ble_eq_true rfl) rfl ?_
            refine zr_less (L' := [some (.ref 33), some (.int a1), some (.long y7), none, some (.int x4), some (.int x5)]) ⟨rfl, ⟨rfl, ⟨rfl, ⟨rfl, ⟨rfl, trivial⟩⟩⟩⟩⟩ ?_
            exact s_Model_waitsOf_L56  ih  hJ
set_option maxHeartbeats 400000 in
theorem s_Model_waitsOf {g : zk_T} {a1 : Int32} {K : Int64 → zm → Prop} {m : zm} (hJ : j_Model_waitsOf a1 m K) : zq_Mt (zk_g g) y_Model_waitsOf 3 0 0 [.ref 33, .int a1] (zm_hp m) (zm_QL K) := by
  unfold j_Model_waitsOf at hJ
  refine zq_meth (ini := false) rfl (fun h => by cases h) (Nat.le_of_ble_eq_true rfl) ?_
  refine zr_L (F := ("RiichiTableModel", prog_9_method_19_code, 6, (some .long), false, zq_rm 3 0 0)) (L' := [some (.ref 33), some (.int a1), none, none, none, none]) rfl ?_
  refine zq_lconst (v := 0) d_Model_waitsOf_0 zk_l0 ?_
  refine zr_lstore_n (L' := [some (.ref 33), some (.int a1), some (.long 0), none, none, none]) d_Model_waitsOf_1 rfl (Nat.le_of_ble_eq_true rfl) rfl ?_
  refine zq_aload_n d_Model_waitsOf_2 rfl rfl ?_
  refine zq_iload_n d_Model_waitsOf_3 rfl rfl ?_
  refine zq_iconst (v := (-1)) d_Model_waitsOf_4 zk_im1 ?_
  refine zr_cvI (q := 33) (as := [.int a1, .int (-1)]) (st := []) d_Model_waitsOf_5 cc_Model_153 cv_Model_load zs_Model (s_Model_load  hJ) rfl ⟨Nat.le_of_ble_eq_true rfl, Nat.le_of_ble_eq_true rfl⟩ (Nat.le_of_ble_eq_true rfl) ⟨Nat.le_refl _, Nat.le_refl _⟩ rfl (fun r2 m1 hJ => ?_)
  refine zr_istore (L' := [some (.ref 33), some (.int a1), some (.long 0), none, some (.int r2), none]) d_Model_waitsOf_8 (Nat.le_of_ble_eq_true rfl) rfl ?_
  refine zq_iconst (v := 0) d_Model_waitsOf_10 zk_i0 ?_
  refine zr_istore (L' := [some (.ref 33), some (.int a1), some (.long 0), none, some (.int r2), some (.int 0)]) d_Model_waitsOf_11 (Nat.le_of_ble_eq_true rfl) rfl ?_
  refine zr_less (L' := [some (.ref 33), some (.int a1), some (.long 0), none, some (.int r2), some (.int 0)]) ⟨rfl, ⟨rfl, ⟨rfl, ⟨rfl, ⟨rfl, trivial⟩⟩⟩⟩⟩ ?_
  obtain ⟨n13, hJ⟩ := hJ
  exact s_Model_waitsOf_L13   n13  hJ
set_option maxHeartbeats 400000 in
theorem s_Model_drawnOut_L26 {g : zk_T} {R4 : Int32 → Int32 → zm → Prop} {K : zm → Prop} (hR4 : ∀ {x1 : Int32} {x2 : Int32} {m : zm}, R4 x1 x2 m → zq_V (zk_g g) ("RiichiTableModel", prog_9_method_68_code, 3, none, false, zq_rm 4 0 0) 0 0 4 [some (.ref 33), some (.int x1), some (.int x2)] [] (zm_hp m) (zm_QV K)) {x2 : Int32} {t0 : Int32} {m : zm} (hJ : j_Model_drawnOut_L26  R4 K x2 t0 m) : zq_V (zk_g g) ("RiichiTableModel", prog_9_method_68_code, 3, none, false, zq_rm 4 0 0) 0 0 26 [some (.ref 33), none, some (.int x2)] [.int t0] (zm_hp m) (zm_QV K) := by
  unfold j_Model_drawnOut_L26 at hJ
  refine zr_istore_n (L' := [some (.ref 33), some (.int t0), some (.int x2)]) d_Model_drawnOut_26 rfl (Nat.le_of_ble_eq_true rfl) rfl ?_
  refine zr_iinc (d' := 1) d_Model_drawnOut_27 zk_i1 rfl (Nat.le_of_ble_eq_true rfl) (fun y3 hy3 => ?_)
  have hJ := hJ y3 hy3
  refine zr_L (L' := [some (.ref 33), some (.int t0), some (.int y3)]) rfl ?_
  refine zq_goto (tgt := 4) d_Model_drawnOut_30 (by decide) ?_
  refine zr_less (L' := [some (.ref 33), some (.int t0), some (.int y3)]) ⟨rfl, ⟨rfl, ⟨rfl, trivial⟩⟩⟩ ?_
  exact hR4  hJ
set_option maxHeartbeats 400000 in
theorem s_Model_drawnOut_L78 {g : zk_T} {R35 : Int32 → Int32 → zm → Prop} {K : zm → Prop} (hR35 : ∀ {x1 : Int32} {x2 : Int32} {m : zm}, R35 x1 x2 m → zq_V (zk_g g) ("RiichiTableModel", prog_9_method_68_code, 3, none, false, zq_rm 4 0 0) 0 0 35 [some (.ref 33), some (.int x1), some (.int x2)] [] (zm_hp m) (zm_QV K)) {x1 : Int32} {x2 : Int32} {t0 : Int32} {t1 : Int32} {t2 : Int32} {m : zm} (hJ : j_Model_drawnOut_L78  R35 K x1 x2 t0 t1 t2 m) : zq_V (zk_g g) ("RiichiTableModel", prog_9_method_68_code, 3, none, false, zq_rm 4 0 0) 0 0 78 [some (.ref 33), some (.int x1), some (.int x2)] [.int t0, .int t1, .int t2, .ref 35] (zm_hp m) (zm_QV K) := by
  unfold j_Model_drawnOut_L78 at hJ
  refine zq_iadd d_Model_drawnOut_78 ?_
  obtain ⟨hb, hJ⟩ := hJ
  refine zr_ast d_Model_drawnOut_79 (rfl : zm_sh[35]? = some (.inl (0, 4, .inl (fun _ => 0)))) hb (fun m6 hm6 => ?_)
  have hJ := hJ m6 hm6
  refine zr_iinc (d' := 1) d_Model_drawnOut_80 zk_i1 rfl (Nat.le_of_ble_eq_true rfl) (fun y7 hy7 => ?_)
  have hJ := hJ y7 hy7
  refine zr_L (L' := [some (.ref 33), some (.int x1), some (.int y7)]) rfl ?_
  refine zq_goto (tgt := 35) d_Model_drawnOut_83 (by decide) ?_
  refine zr_less (L' := [some (.ref 33), some (.int x1), some (.int y7)]) ⟨rfl, ⟨rfl, ⟨rfl, trivial⟩⟩⟩ ?_
  exact hR35  hJ
set_option maxHeartbeats 400000 in
theorem s_Model_drawnOut_L105 {g : zk_T} {K : zm → Prop} {t0 : Int32} {m : zm} (hJ : j_Model_drawnOut_L105   K t0 m) : zq_V (zk_g g) ("RiichiTableModel", prog_9_method_68_code, 3, none, false, zq_rm 4 0 0) 0 0 105 [some (.ref 33), none, none] [.int t0, .ref 33] (zm_hp m) (zm_QV K) := by
  unfold j_Model_drawnOut_L105 at hJ
  refine zq_iconst (v := 1) d_Model_drawnOut_105 zk_i1 ?_
  refine zr_cvV (q := 33) (as := [.int t0, .int 1]) (st := []) d_Model_drawnOut_106 cc_Model_371 cv_Model_end zs_Model (s_Model_end  hJ) rfl ⟨Nat.le_of_ble_eq_true rfl, Nat.le_of_ble_eq_true rfl⟩ (Nat.le_of_ble_eq_true rfl) ⟨Nat.le_refl _, Nat.le_refl _⟩ rfl (fun m10 hJ => ?_)
  exact zq_vret d_Model_drawnOut_109 rfl (Nat.le_refl _) (Nat.le_refl _) ⟨_, rfl, rfl, hJ⟩
set_option maxHeartbeats 400000 in
theorem s_Model_drawnOut_L86 {g : zk_T} {K : zm → Prop} {m : zm} (hJ : j_Model_drawnOut_L86   K  m) : zq_V (zk_g g) ("RiichiTableModel", prog_9_method_68_code, 3, none, false, zq_rm 4 0 0) 0 0 86 [some (.ref 33), none, none] [] (zm_hp m) (zm_QV K) := by
  unfold j_Model_drawnOut_L86 at hJ
  refine zq_aload_n d_Model_drawnOut_86 rfl rfl ?_
  refine zq_aload_n d_Model_drawnOut_87 rfl rfl ?_
  refine zq_aload_n d_Model_drawnOut_88 rfl rfl ?_
  refine zm_getI fg_Model_96 d_Model_drawnOut_89 zs_Model rfl ?_
  refine zr_cvL (q := 33) (as := [.int (m.1 33 5)]) (st := [.ref 33]) d_Model_drawnOut_92 cc_Model_177 cv_Model_waitsOf zs_Model (s_Model_waitsOf  hJ) rfl ⟨Nat.le_of_ble_eq_true rfl, Nat.le_of_ble_eq_true rfl⟩ (Nat.le_of_ble_eq_true rfl) ⟨Nat.le_refl _, Nat.le_refl _⟩ rfl (fun r9 m8 hJ => ?_)
  refine zq_lconst (v := 0) d_Model_drawnOut_95 zk_l0 ?_
  refine zq_lcmp d_Model_drawnOut_96 ?_
  refine zq_if_eq (tgt := 104) d_Model_drawnOut_97 (by decide) (fun c => ?_) (fun c => ?_)
  · have hJ := hJ.1 c
    refine zq_iconst (v := 0) d_Model_drawnOut_104 zk_i0 ?_
    refine zr_less (L' := [some (.ref 33), none, none]) ⟨rfl, trivial⟩ ?_
    exact s_Model_drawnOut_L105    hJ
  · have hJ := hJ.2 c
    refine zq_iconst (v := 1) d_Model_drawnOut_100 zk_i1 ?_
    refine zq_goto (tgt := 105) d_Model_drawnOut_101 (by decide) ?_
    refine zr_less (L' := [some (.ref 33), none, none]) ⟨rfl, trivial⟩ ?_
    exact s_Model_drawnOut_L105    hJ
set_option maxHeartbeats 400000 in
theorem s_Model_drawnOut_L35 {g : zk_T} {K : zm → Prop} : ∀ (n : Nat) {x1 : Int32} {x2 : Int32} {m : zm}, j_Model_drawnOut_L35   K n x1 x2 m → zq_V (zk_g g) ("RiichiTableModel", prog_9_method_68_code, 3, none, false, zq_rm 4 0 0) 0 0 35 [some (.ref 33), some (.int x1), some (.int x2)] [] (zm_hp m) (zm_QV K) := by
  intro n
  induction n with
  | zero =>
    intro x1 x2 m hJ
    exact False.elim hJ
  | succ n ih =>
    intro x1 x2 m hJ
    rw [j_Model_drawnOut_L35] at hJ
    refine zq_iload_n d_Model_drawnOut_35 rfl rfl ?_
    refine zq_iconst (v := 4) d_Model_drawnOut_36 zk_i4 ?_
    refine zq_icmp_ge (tgt := 86) d_Model_drawnOut_37 (by decide) (fun c => ?_) (fun c => ?_)
    · have hJ := hJ.1 c
      refine zr_less (L' := [some (.ref 33), none, none]) ⟨rfl, trivial⟩ ?_
      exact s_Model_drawnOut_L86    hJ
    · have hJ := hJ.2 c
      refine zq_iload_n d_Model_drawnOut_40 rfl rfl ?_
      refine zq_iconst (v := 4) d_Model_drawnOut_41 zk_i4 ?_
      refine zq_irem d_Model_drawnOut_42 (by decide) ?_
      refine zq_if_eq (tgt := 86) d_Model_drawnOut_43 (by decide) (fun c => ?_) (fun c => ?_)
      · have hJ := hJ.1 c
        refine zr_less (L' := [some (.ref 33), none, none]) ⟨rfl, trivial⟩ ?_
        exact s_Model_drawnOut_L86    hJ
      · have hJ := hJ.2 c
        refine zq_aload_n d_Model_drawnOut_46 rfl rfl ?_
        refine zm_getR fg_Model_13 d_Model_drawnOut_47 zs_Model rfl ?_
        refine zq_iload_n d_Model_drawnOut_50 rfl rfl ?_
        refine zq_dup2 d_Model_drawnOut_51 rfl rfl ?_
        obtain ⟨hb, hJ⟩ := hJ
        refine zm_ald d_Model_drawnOut_52 (rfl : zm_sh[35]? = some (.inl (0, 4, .inl (fun _ => 0)))) hb ?_
        refine zq_aload_n d_Model_drawnOut_53 rfl rfl ?_
        refine zq_iload_n d_Model_drawnOut_54 rfl rfl ?_
        refine zr_cvL (q := 33) (as := [.int x2]) (st := [.int (m.1 35 (Int32.toNatClampNeg x2)), .int x2, .ref 35]) d_Model_drawnOut_55 cc_Model_177 cv_Model_waitsOf zs_Model (s_Model_waitsOf  hJ) rfl ⟨Nat.le_of_ble_eq_true rfl, Nat.le_of_ble_eq_true rfl⟩ (Nat.le_of_ble_eq_true rfl) ⟨Nat.le_refl _, Nat.le_refl _⟩ rfl (fun r5 m4 hJ => ?_)
        refine zq_lconst (v := 0) d_Model_drawnOut_58 zk_l0 ?_
        refine zq_lcmp d_Model_drawnOut_59 ?_
        refine zq_if_eq (tgt := 71) d_Model_drawnOut_60 (by decide) (fun c => ?_) (fun c => ?_)
        · have hJ := hJ.1 c
          refine zq_sipush (v := (-3000)) d_Model_drawnOut_71 zk_sm3000 ?_
          refine zq_iconst (v := 4) d_Model_drawnOut_74 zk_i4 ?_
          refine zq_iload_n d_Model_drawnOut_75 rfl rfl ?_
          refine zq_isub d_Model_drawnOut_76 ?_
          obtain ⟨hz, hJ⟩ := hJ
          refine zq_idiv d_Model_drawnOut_77 hz ?_
          refine zr_less (L' := [some (.ref 33), some (.int x1), some (.int x2)]) ⟨rfl, ⟨rfl, ⟨rfl, trivial⟩⟩⟩ ?_
          exact s_Model_drawnOut_L78  ih  hJ
        · have hJ := hJ.2 c
          refine zq_sipush (v := 3000) d_Model_drawnOut_63 zk_s3000 ?_
          refine zq_iload_n d_Model_drawnOut_66 rfl rfl ?_
          obtain ⟨hz, hJ⟩ := hJ
          refine zq_idiv d_Model_drawnOut_67 hz ?_
          refine zq_goto (tgt := 78) d_Model_drawnOut_68 (by decide) ?_
          refine zr_less (L' := [some (.ref 33), some (.int x1), some (.int x2)]) ⟨rfl, ⟨rfl, ⟨rfl, trivial⟩⟩⟩ ?_
          exact s_Model_drawnOut_L78  ih  hJ
set_option maxHeartbeats 400000 in
theorem s_Model_drawnOut_L4 {g : zk_T} {K : zm → Prop} : ∀ (n : Nat) {x1 : Int32} {x2 : Int32} {m : zm}, j_Model_drawnOut_L4   K n x1 x2 m → zq_V (zk_g g) ("RiichiTableModel", prog_9_method_68_code, 3, none, false, zq_rm 4 0 0) 0 0 4 [some (.ref 33), some (.int x1), some (.int x2)] [] (zm_hp m) (zm_QV K) := by
  intro n
  induction n with
  | zero =>
    intro x1 x2 m hJ
    exact False.elim hJ
  | succ n ih =>
    intro x1 x2 m hJ
    rw [j_Model_drawnOut_L4] at hJ
    refine zq_iload_n d_Model_drawnOut_4 rfl rfl ?_
    refine zq_iconst (v := 4) d_Model_drawnOut_5 zk_i4 ?_
    refine zq_icmp_ge (tgt := 33) d_Model_drawnOut_6 (by decide) (fun c => ?_) (fun c => ?_)
    · have hJ := hJ.1 c
      refine zq_iconst (v := 0) d_Model_drawnOut_33 zk_i0 ?_
      refine zr_istore_n (L' := [some (.ref 33), some (.int x1), some (.int 0)]) d_Model_drawnOut_34 rfl (Nat.le_of_ble_eq_true rfl) rfl ?_
      refine zr_less (L' := [some (.ref 33), some (.int x1), some (.int 0)]) ⟨rfl, ⟨rfl, ⟨rfl, trivial⟩⟩⟩ ?_
      obtain ⟨n35, hJ⟩ := hJ
      exact s_Model_drawnOut_L35   n35  hJ
    · have hJ := hJ.2 c
      refine zq_aload_n d_Model_drawnOut_9 rfl rfl ?_
      refine zq_iload_n d_Model_drawnOut_10 rfl rfl ?_
      refine zr_cvL (q := 33) (as := [.int x2]) (st := []) d_Model_drawnOut_11 cc_Model_177 cv_Model_waitsOf zs_Model (s_Model_waitsOf  hJ) rfl ⟨Nat.le_of_ble_eq_true rfl, Nat.le_of_ble_eq_true rfl⟩ (Nat.le_of_ble_eq_true rfl) ⟨Nat.le_refl _, Nat.le_refl _⟩ rfl (fun r2 m1 hJ => ?_)
      refine zq_lconst (v := 0) d_Model_drawnOut_14 zk_l0 ?_
      refine zq_lcmp d_Model_drawnOut_15 ?_
      refine zq_if_eq (tgt := 25) d_Model_drawnOut_16 (by decide) (fun c => ?_) (fun c => ?_)
      · have hJ := hJ.1 c
        refine zq_iload_n d_Model_drawnOut_25 rfl rfl ?_
        refine zr_less (L' := [some (.ref 33), none, some (.int x2)]) ⟨rfl, ⟨rfl, trivial⟩⟩ ?_
        exact s_Model_drawnOut_L26  ih  hJ
      · have hJ := hJ.2 c
        refine zq_iload_n d_Model_drawnOut_19 rfl rfl ?_
        refine zq_iconst (v := 1) d_Model_drawnOut_20 zk_i1 ?_
        refine zq_iadd d_Model_drawnOut_21 ?_
        refine zq_goto (tgt := 26) d_Model_drawnOut_22 (by decide) ?_
        refine zr_less (L' := [some (.ref 33), none, some (.int x2)]) ⟨rfl, ⟨rfl, trivial⟩⟩ ?_
        exact s_Model_drawnOut_L26  ih  hJ
set_option maxHeartbeats 400000 in
theorem s_Model_drawnOut {g : zk_T} {K : zm → Prop} {m : zm} (hJ : j_Model_drawnOut  m K) : zq_Mt (zk_g g) y_Model_drawnOut 4 0 0 [.ref 33] (zm_hp m) (zm_QV K) := by
  unfold j_Model_drawnOut at hJ
  refine zq_meth (ini := false) rfl (fun h => by cases h) (Nat.le_of_ble_eq_true rfl) ?_
  refine zr_L (F := ("RiichiTableModel", prog_9_method_68_code, 3, none, false, zq_rm 4 0 0)) (L' := [some (.ref 33), none, none]) rfl ?_
  refine zq_iconst (v := 0) d_Model_drawnOut_0 zk_i0 ?_
  refine zr_istore_n (L' := [some (.ref 33), some (.int 0), none]) d_Model_drawnOut_1 rfl (Nat.le_of_ble_eq_true rfl) rfl ?_
  refine zq_iconst (v := 0) d_Model_drawnOut_2 zk_i0 ?_
  refine zr_istore_n (L' := [some (.ref 33), some (.int 0), some (.int 0)]) d_Model_drawnOut_3 rfl (Nat.le_of_ble_eq_true rfl) rfl ?_
  refine zr_less (L' := [some (.ref 33), some (.int 0), some (.int 0)]) ⟨rfl, ⟨rfl, ⟨rfl, trivial⟩⟩⟩ ?_
  obtain ⟨n4, hJ⟩ := hJ
  exact s_Model_drawnOut_L4   n4  hJ
set_option maxHeartbeats 400000 in
theorem s_Model_left {g : zk_T} {K : Int32 → zm → Prop} {m : zm} (hJ : j_Model_left  m K) : zq_Mt (zk_g g) y_Model_left 0 0 0 [.ref 33] (zm_hp m) (zm_QI K) := by
  unfold j_Model_left at hJ
  refine zq_meth (ini := false) rfl (fun h => by cases h) (Nat.le_of_ble_eq_true rfl) ?_
  refine zr_L (F := ("RiichiTableModel", prog_9_method_6_code, 1, (some .int), false, zq_rm 0 0 0)) (L' := [some (.ref 33)]) rfl ?_
  refine zq_bipush (v := 122) d_Model_left_0 zk_b122 ?_
  refine zq_aload_n d_Model_left_2 rfl rfl ?_
  refine zm_getI fg_Model_93 d_Model_left_3 zs_Model rfl ?_
  refine zq_isub d_Model_left_6 ?_
  refine zq_aload_n d_Model_left_7 rfl rfl ?_
  refine zm_getI fg_Model_99 d_Model_left_8 zs_Model rfl ?_
  refine zq_isub d_Model_left_11 ?_
  exact zq_iret d_Model_left_12 rfl rfl (Nat.le_refl _) (Nat.le_refl _) ⟨_, _, rfl, rfl, hJ⟩
set_option maxHeartbeats 400000 in
theorem s_Model_take_L63 {g : zk_T} {a1 : Int32} {a2 : Int32} {a3 : Int32} {K : zm → Prop} {t0 : Int32} {t1 : Int32} {m : zm} (hJ : j_Model_take_L63 a1 a2 a3  K t0 t1 m) : zq_V (zk_g g) ("RiichiTableModel", prog_9_method_7_code, 4, none, false, zq_rm 0 0 0) 0 0 63 [some (.ref 33), some (.int a1), some (.int a2), some (.int a3)] [.int t0, .int t1, .ref 44] (zm_hp m) (zm_QV K) := by
  unfold j_Model_take_L63 at hJ
  obtain ⟨hb, hJ⟩ := hJ
  obtain ⟨hz, hJ⟩ := hJ
  refine zr_zst d_Model_take_63 (rfl : zm_sh[44]? = some (.inl (2, 4, .inl (fun _ => 0)))) hb hz (fun m6 hm6 => ?_)
  have hJ := hJ m6 hm6
  exact zq_vret d_Model_take_64 rfl (Nat.le_refl _) (Nat.le_refl _) ⟨_, rfl, rfl, hJ⟩
set_option maxHeartbeats 400000 in
theorem s_Model_take_L62 {g : zk_T} {a1 : Int32} {a2 : Int32} {a3 : Int32} {K : zm → Prop} {t0 : Int32} {m : zm} (hJ : j_Model_take_L62 a1 a2 a3  K t0 m) : zq_V (zk_g g) ("RiichiTableModel", prog_9_method_7_code, 4, none, false, zq_rm 0 0 0) 0 0 62 [some (.ref 33), some (.int a1), some (.int a2), some (.int a3)] [.int t0, .ref 44] (zm_hp m) (zm_QV K) := by
  unfold j_Model_take_L62 at hJ
  refine zq_iconst (v := 0) d_Model_take_62 zk_i0 ?_
  refine zr_less (L' := [some (.ref 33), some (.int a1), some (.int a2), some (.int a3)]) ⟨rfl, ⟨rfl, ⟨rfl, ⟨rfl, trivial⟩⟩⟩⟩ ?_
  exact s_Model_take_L63    hJ
set_option maxHeartbeats 400000 in
theorem s_Model_take {g : zk_T} {a1 : Int32} {a2 : Int32} {a3 : Int32} {K : zm → Prop} {m : zm} (hJ : j_Model_take a1 a2 a3 m K) : zq_Mt (zk_g g) y_Model_take 0 0 0 [.ref 33, .int a1, .int a2, .int a3] (zm_hp m) (zm_QV K) := by
  unfold j_Model_take at hJ
  refine zq_meth (ini := false) rfl (fun h => by cases h) (Nat.le_of_ble_eq_true rfl) ?_
  refine zr_L (F := ("RiichiTableModel", prog_9_method_7_code, 4, none, false, zq_rm 0 0 0)) (L' := [some (.ref 33), some (.int a1), some (.int a2), some (.int a3)]) rfl ?_
  refine zq_aload_n d_Model_take_0 rfl rfl ?_
  refine zm_getR fg_Model_16 d_Model_take_1 zs_Model rfl ?_
  refine zq_bipush (v := 34) d_Model_take_4 zk_b34 ?_
  refine zq_iload_n d_Model_take_6 rfl rfl ?_
  refine zq_imul d_Model_take_7 ?_
  refine zq_iload_n d_Model_take_8 rfl rfl ?_
  refine zq_iadd d_Model_take_9 ?_
  refine zq_dup2 d_Model_take_10 rfl rfl ?_
  obtain ⟨hb, hJ⟩ := hJ
  refine zm_ald d_Model_take_11 (rfl : zm_sh[36]? = some (.inl (0, 136, .inl (fun _ => 0)))) hb ?_
  refine zq_iconst (v := 1) d_Model_take_12 zk_i1 ?_
  refine zq_iadd d_Model_take_13 ?_
  obtain ⟨hb, hJ⟩ := hJ
  refine zr_ast d_Model_take_14 (rfl : zm_sh[36]? = some (.inl (0, 136, .inl (fun _ => 0)))) hb (fun m1 hm1 => ?_)
  have hJ := hJ m1 hm1
  refine zq_aload_n d_Model_take_15 rfl rfl ?_
  refine zq_iload_n d_Model_take_16 rfl rfl ?_
  refine zr_putI fl_Model_113 d_Model_take_17 zs_Model rfl rfl (fun m2 hm2 => ?_)
  have hJ := hJ m2 hm2
  refine zq_aload_n d_Model_take_20 rfl rfl ?_
  refine zq_iconst (v := 1) d_Model_take_21 zk_i1 ?_
  refine zr_putI fl_Model_90 d_Model_take_22 zs_Model rfl rfl (fun m3 hm3 => ?_)
  have hJ := hJ m3 hm3
  refine zq_aload_n d_Model_take_25 rfl rfl ?_
  refine zq_iload_n d_Model_take_26 rfl rfl ?_
  refine zr_putI fl_Model_116 d_Model_take_27 zs_Model rfl rfl (fun m4 hm4 => ?_)
  have hJ := hJ m4 hm4
  refine zq_aload_n d_Model_take_30 rfl rfl ?_
  refine zq_iload_n d_Model_take_31 rfl rfl ?_
  obtain ⟨hb, hJ⟩ := hJ
  refine zr_putZ fl_Model_119 d_Model_take_32 zs_Model rfl rfl hb (fun m5 hm5 => ?_)
  have hJ := hJ m5 hm5
  refine zq_aload_n d_Model_take_35 rfl rfl ?_
  refine zm_getR fg_Model_41 d_Model_take_36 zs_Model rfl ?_
  refine zq_iload_n d_Model_take_39 rfl rfl ?_
  refine zq_aload_n d_Model_take_40 rfl rfl ?_
  refine zm_getR fg_Model_41 d_Model_take_41 zs_Model rfl ?_
  refine zq_iload_n d_Model_take_44 rfl rfl ?_
  obtain ⟨hb, hJ⟩ := hJ
  refine zm_zld d_Model_take_45 (rfl : zm_sh[44]? = some (.inl (2, 4, .inl (fun _ => 0)))) hb ?_
  refine zq_if_eq (tgt := 62) d_Model_take_46 (by decide) (fun c => ?_) (fun c => ?_)
  · have hJ := hJ.1 c
    refine zr_less (L' := [some (.ref 33), some (.int a1), some (.int a2), some (.int a3)]) ⟨rfl, ⟨rfl, ⟨rfl, ⟨rfl, trivial⟩⟩⟩⟩ ?_
    exact s_Model_take_L62    hJ
  · have hJ := hJ.2 c
    refine zq_aload_n d_Model_take_49 rfl rfl ?_
    refine zm_getR fg_Model_34 d_Model_take_50 zs_Model rfl ?_
    refine zq_iload_n d_Model_take_53 rfl rfl ?_
    obtain ⟨hb, hJ⟩ := hJ
    refine zm_ald d_Model_take_54 (rfl : zm_sh[42]? = some (.inl (0, 4, .inl (fun _ => 0)))) hb ?_
    refine zq_if_le (tgt := 62) d_Model_take_55 (by decide) (fun c => ?_) (fun c => ?_)
    · have hJ := hJ.1 c
      refine zr_less (L' := [some (.ref 33), some (.int a1), some (.int a2), some (.int a3)]) ⟨rfl, ⟨rfl, ⟨rfl, ⟨rfl, trivial⟩⟩⟩⟩ ?_
      exact s_Model_take_L62    hJ
    · have hJ := hJ.2 c
      refine zq_iconst (v := 1) d_Model_take_58 zk_i1 ?_
      refine zq_goto (tgt := 63) d_Model_take_59 (by decide) ?_
      refine zr_less (L' := [some (.ref 33), some (.int a1), some (.int a2), some (.int a3)]) ⟨rfl, ⟨rfl, ⟨rfl, ⟨rfl, trivial⟩⟩⟩⟩ ?_
      exact s_Model_take_L63    hJ
set_option maxHeartbeats 400000 in
theorem s_Model_drawFor_L41 {g : zk_T} {a1 : Int32} {K : zm → Prop} {m : zm} (hJ : j_Model_drawFor_L41 a1  K  m) : zq_V (zk_g g) ("RiichiTableModel", prog_9_method_8_code, 2, none, false, zq_rm 5 0 0) 0 0 41 [some (.ref 33), some (.int a1)] [] (zm_hp m) (zm_QV K) := by
  unfold j_Model_drawFor_L41 at hJ
  exact zq_vret d_Model_drawFor_41 rfl (Nat.le_refl _) (Nat.le_refl _) ⟨_, rfl, rfl, hJ⟩
set_option maxHeartbeats 400000 in
theorem s_Model_drawFor {g : zk_T} {a1 : Int32} {K : zm → Prop} {m : zm} (hJ : j_Model_drawFor a1 m K) : zq_Mt (zk_g g) y_Model_drawFor 5 0 0 [.ref 33, .int a1] (zm_hp m) (zm_QV K) := by
  unfold j_Model_drawFor at hJ
  refine zq_meth (ini := false) rfl (fun h => by cases h) (Nat.le_of_ble_eq_true rfl) ?_
  refine zr_L (F := ("RiichiTableModel", prog_9_method_8_code, 2, none, false, zq_rm 5 0 0)) (L' := [some (.ref 33), some (.int a1)]) rfl ?_
  refine zq_aload_n d_Model_drawFor_0 rfl rfl ?_
  refine zr_cvI (q := 33) (as := []) (st := []) d_Model_drawFor_1 cc_Model_122 cv_Model_left zs_Model (s_Model_left  hJ) rfl ⟨Nat.le_of_ble_eq_true rfl, Nat.le_of_ble_eq_true rfl⟩ (Nat.le_of_ble_eq_true rfl) ⟨Nat.le_refl _, Nat.le_refl _⟩ rfl (fun r2 m1 hJ => ?_)
  refine zq_if_ne (tgt := 14) d_Model_drawFor_4 (by decide) (fun c => ?_) (fun c => ?_)
  · have hJ := hJ.1 c
    refine zq_aload_n d_Model_drawFor_14 rfl rfl ?_
    refine zq_dup d_Model_drawFor_15 rfl ?_
    refine zm_getI fg_Model_99 d_Model_drawFor_16 zs_Model rfl ?_
    refine zq_iconst (v := 1) d_Model_drawFor_19 zk_i1 ?_
    refine zq_iadd d_Model_drawFor_20 ?_
    refine zr_putI fl_Model_99 d_Model_drawFor_21 zs_Model rfl rfl (fun m3 hm3 => ?_)
    have hJ := hJ m3 hm3
    refine zq_aload_n d_Model_drawFor_24 rfl rfl ?_
    refine zq_iload_n d_Model_drawFor_25 rfl rfl ?_
    refine zq_aload_n d_Model_drawFor_26 rfl rfl ?_
    refine zm_getR fg_Model_7 d_Model_drawFor_27 zs_Model rfl ?_
    refine zq_aload_n d_Model_drawFor_30 rfl rfl ?_
    refine zm_getI fg_Model_99 d_Model_drawFor_31 zs_Model rfl ?_
    refine zq_iconst (v := 1) d_Model_drawFor_34 zk_i1 ?_
    refine zq_isub d_Model_drawFor_35 ?_
    obtain ⟨hb, hJ⟩ := hJ
    refine zm_ald d_Model_drawFor_36 (rfl : zm_sh[34]? = some (.inl (0, 136, .inl (fun _ => 0)))) hb ?_
    refine zq_iconst (v := 0) d_Model_drawFor_37 zk_i0 ?_
    refine zr_cvV (q := 33) (as := [.int a1, .int (m3.1 34 (Int32.toNatClampNeg ((m3.1 33 2) - 1))), .int 0]) (st := []) d_Model_drawFor_38 cc_Model_129 cv_Model_take zs_Model (s_Model_take  hJ) rfl ⟨Nat.le_of_ble_eq_true rfl, Nat.le_of_ble_eq_true rfl⟩ (Nat.le_of_ble_eq_true rfl) ⟨Nat.le_refl _, Nat.le_refl _⟩ rfl (fun m4 hJ => ?_)
    refine zr_less (L' := [some (.ref 33), some (.int a1)]) ⟨rfl, ⟨rfl, trivial⟩⟩ ?_
    exact s_Model_drawFor_L41    hJ
  · have hJ := hJ.2 c
    refine zq_aload_n d_Model_drawFor_7 rfl rfl ?_
    refine zr_cvV (q := 33) (as := []) (st := []) d_Model_drawFor_8 cc_Model_126 cv_Model_drawnOut zs_Model (s_Model_drawnOut  hJ) rfl ⟨Nat.le_of_ble_eq_true rfl, Nat.le_of_ble_eq_true rfl⟩ (Nat.le_of_ble_eq_true rfl) ⟨Nat.le_refl _, Nat.le_refl _⟩ rfl (fun m5 hJ => ?_)
    refine zq_goto (tgt := 41) d_Model_drawFor_11 (by decide) ?_
    refine zr_less (L' := [some (.ref 33), some (.int a1)]) ⟨rfl, ⟨rfl, trivial⟩⟩ ?_
    exact s_Model_drawFor_L41    hJ
set_option maxHeartbeats 400000 in
theorem s_Model_deal_L88 {g : zk_T} {K : Int32 → zm → Prop} : ∀ (n : Nat) {x1 : Int32} {m : zm}, j_Model_deal_L88   K n x1 m → zq_V (zk_g g) ("RiichiTableModel", prog_9_method_5_code, 2, (some .boolean), false, zq_rm 6 0 0) 0 0 88 [some (.ref 33), some (.int x1)] [] (zm_hp m) (zm_QI K) := by
  intro n
  induction n with
  | zero =>
    intro x1 m hJ
    exact False.elim hJ
  | succ n ih =>
    intro x1 m hJ
    rw [j_Model_deal_L88] at hJ
    refine zq_iload_n d_Model_deal_88 rfl rfl ?_
    refine zq_bipush (v := 52) d_Model_deal_89 zk_b52 ?_
    refine zq_icmp_ge (tgt := 130) d_Model_deal_91 (by decide) (fun c => ?_) (fun c => ?_)
    · have hJ := hJ.1 c
      refine zq_aload_n d_Model_deal_130 rfl rfl ?_
      refine zq_bipush (v := 52) d_Model_deal_131 zk_b52 ?_
      refine zr_putI fl_Model_99 d_Model_deal_133 zs_Model rfl rfl (fun m10 hm10 => ?_)
      have hJ := hJ m10 hm10
      refine zq_aload_n d_Model_deal_136 rfl rfl ?_
      refine zq_iconst (v := 0) d_Model_deal_137 zk_i0 ?_
      refine zr_putI fl_Model_93 d_Model_deal_138 zs_Model rfl rfl (fun m11 hm11 => ?_)
      have hJ := hJ m11 hm11
      refine zq_aload_n d_Model_deal_141 rfl rfl ?_
      refine zq_iconst (v := 0) d_Model_deal_142 zk_i0 ?_
      refine zr_putZ fl_Model_102 d_Model_deal_143 zs_Model rfl rfl (Or.inl rfl) (fun m12 hm12 => ?_)
      have hJ := hJ m12 hm12
      refine zq_aload_n d_Model_deal_146 rfl rfl ?_
      refine zq_iconst (v := (-1)) d_Model_deal_147 zk_im1 ?_
      refine zr_putI fl_Model_106 d_Model_deal_148 zs_Model rfl rfl (fun m13 hm13 => ?_)
      have hJ := hJ m13 hm13
      refine zq_aload_n d_Model_deal_151 rfl rfl ?_
      refine zq_aload_n d_Model_deal_152 rfl rfl ?_
      refine zm_getI fg_Model_96 d_Model_deal_153 zs_Model rfl ?_
      refine zr_cvV (q := 33) (as := [.int (m13.1 33 5)]) (st := []) d_Model_deal_156 cc_Model_109 cv_Model_drawFor zs_Model (s_Model_drawFor  hJ) rfl ⟨Nat.le_of_ble_eq_true rfl, Nat.le_of_ble_eq_true rfl⟩ (Nat.le_of_ble_eq_true rfl) ⟨Nat.le_refl _, Nat.le_refl _⟩ rfl (fun m14 hJ => ?_)
      refine zq_iconst (v := 1) d_Model_deal_159 zk_i1 ?_
      exact zq_iret d_Model_deal_160 rfl (zm_isB.nar (Or.inr rfl)) (Nat.le_refl _) (Nat.le_refl _) ⟨_, _, rfl, rfl, hJ⟩
    · have hJ := hJ.2 c
      refine zq_aload_n d_Model_deal_94 rfl rfl ?_
      refine zm_getR fg_Model_16 d_Model_deal_95 zs_Model rfl ?_
      refine zq_bipush (v := 34) d_Model_deal_98 zk_b34 ?_
      refine zq_aload_n d_Model_deal_100 rfl rfl ?_
      refine zm_getI fg_Model_96 d_Model_deal_101 zs_Model rfl ?_
      refine zq_iload_n d_Model_deal_104 rfl rfl ?_
      refine zq_bipush (v := 13) d_Model_deal_105 zk_b13 ?_
      refine zq_idiv d_Model_deal_107 (by decide) ?_
      refine zq_iadd d_Model_deal_108 ?_
      refine zq_iconst (v := 4) d_Model_deal_109 zk_i4 ?_
      refine zq_irem d_Model_deal_110 (by decide) ?_
      refine zq_imul d_Model_deal_111 ?_
      refine zq_aload_n d_Model_deal_112 rfl rfl ?_
      refine zm_getR fg_Model_7 d_Model_deal_113 zs_Model rfl ?_
      refine zq_iload_n d_Model_deal_116 rfl rfl ?_
      obtain ⟨hb, hJ⟩ := hJ
      refine zm_ald d_Model_deal_117 (rfl : zm_sh[34]? = some (.inl (0, 136, .inl (fun _ => 0)))) hb ?_
      refine zq_iadd d_Model_deal_118 ?_
      refine zq_dup2 d_Model_deal_119 rfl rfl ?_
      obtain ⟨hb, hJ⟩ := hJ
      refine zm_ald d_Model_deal_120 (rfl : zm_sh[36]? = some (.inl (0, 136, .inl (fun _ => 0)))) hb ?_
      refine zq_iconst (v := 1) d_Model_deal_121 zk_i1 ?_
      refine zq_iadd d_Model_deal_122 ?_
      obtain ⟨hb, hJ⟩ := hJ
      refine zr_ast d_Model_deal_123 (rfl : zm_sh[36]? = some (.inl (0, 136, .inl (fun _ => 0)))) hb (fun m15 hm15 => ?_)
      have hJ := hJ m15 hm15
      refine zr_iinc (d' := 1) d_Model_deal_124 zk_i1 rfl (Nat.le_of_ble_eq_true rfl) (fun y16 hy16 => ?_)
      have hJ := hJ y16 hy16
      refine zr_L (L' := [some (.ref 33), some (.int y16)]) rfl ?_
      refine zq_goto (tgt := 88) d_Model_deal_127 (by decide) ?_
      refine zr_less (L' := [some (.ref 33), some (.int y16)]) ⟨rfl, ⟨rfl, trivial⟩⟩ ?_
      exact ih  hJ
set_option maxHeartbeats 400000 in
theorem s_Model_deal_L33 {g : zk_T} {K : Int32 → zm → Prop} : ∀ (n : Nat) {x1 : Int32} {m : zm}, j_Model_deal_L33   K n x1 m → zq_V (zk_g g) ("RiichiTableModel", prog_9_method_5_code, 2, (some .boolean), false, zq_rm 6 0 0) 0 0 33 [some (.ref 33), some (.int x1)] [] (zm_hp m) (zm_QI K) := by
  intro n
  induction n with
  | zero =>
    intro x1 m hJ
    exact False.elim hJ
  | succ n ih =>
    intro x1 m hJ
    rw [j_Model_deal_L33] at hJ
    refine zq_iload_n d_Model_deal_33 rfl rfl ?_
    refine zq_iconst (v := 4) d_Model_deal_34 zk_i4 ?_
    refine zq_icmp_ge (tgt := 86) d_Model_deal_35 (by decide) (fun c => ?_) (fun c => ?_)
    · have hJ := hJ.1 c
      refine zq_iconst (v := 0) d_Model_deal_86 zk_i0 ?_
      refine zr_istore_n (L' := [some (.ref 33), some (.int 0)]) d_Model_deal_87 rfl (Nat.le_of_ble_eq_true rfl) rfl ?_
      refine zr_less (L' := [some (.ref 33), some (.int 0)]) ⟨rfl, ⟨rfl, trivial⟩⟩ ?_
      obtain ⟨n88, hJ⟩ := hJ
      exact s_Model_deal_L88   n88  hJ
    · have hJ := hJ.2 c
      refine zq_aload_n d_Model_deal_38 rfl rfl ?_
      refine zm_getR fg_Model_19 d_Model_deal_39 zs_Model rfl ?_
      refine zq_iload_n d_Model_deal_42 rfl rfl ?_
      refine zq_iconst (v := 0) d_Model_deal_43 zk_i0 ?_
      obtain ⟨hb, hJ⟩ := hJ
      refine zr_ast d_Model_deal_44 (rfl : zm_sh[37]? = some (.inl (0, 4, .inl (fun _ => 0)))) hb (fun m3 hm3 => ?_)
      have hJ := hJ m3 hm3
      refine zq_aload_n d_Model_deal_45 rfl rfl ?_
      refine zm_getR fg_Model_28 d_Model_deal_46 zs_Model rfl ?_
      refine zq_iload_n d_Model_deal_49 rfl rfl ?_
      refine zq_iconst (v := 0) d_Model_deal_50 zk_i0 ?_
      obtain ⟨hb, hJ⟩ := hJ
      refine zr_ast d_Model_deal_51 (rfl : zm_sh[40]? = some (.inl (0, 4, .inl (fun _ => 0)))) hb (fun m4 hm4 => ?_)
      have hJ := hJ m4 hm4
      refine zq_aload_n d_Model_deal_52 rfl rfl ?_
      refine zm_getR fg_Model_34 d_Model_deal_53 zs_Model rfl ?_
      refine zq_iload_n d_Model_deal_56 rfl rfl ?_
      refine zq_iconst (v := 0) d_Model_deal_57 zk_i0 ?_
      obtain ⟨hb, hJ⟩ := hJ
      refine zr_ast d_Model_deal_58 (rfl : zm_sh[42]? = some (.inl (0, 4, .inl (fun _ => 0)))) hb (fun m5 hm5 => ?_)
      have hJ := hJ m5 hm5
      refine zq_aload_n d_Model_deal_59 rfl rfl ?_
      refine zm_getR fg_Model_37 d_Model_deal_60 zs_Model rfl ?_
      refine zq_iload_n d_Model_deal_63 rfl rfl ?_
      refine zq_iconst (v := 0) d_Model_deal_64 zk_i0 ?_
      obtain ⟨hb, hJ⟩ := hJ
      refine zr_zst d_Model_deal_65 (rfl : zm_sh[43]? = some (.inl (2, 4, .inl (fun _ => 0)))) hb (Or.inl rfl) (fun m6 hm6 => ?_)
      have hJ := hJ m6 hm6
      refine zq_aload_n d_Model_deal_66 rfl rfl ?_
      refine zm_getR fg_Model_41 d_Model_deal_67 zs_Model rfl ?_
      refine zq_iload_n d_Model_deal_70 rfl rfl ?_
      refine zq_iconst (v := 0) d_Model_deal_71 zk_i0 ?_
      obtain ⟨hb, hJ⟩ := hJ
      refine zr_zst d_Model_deal_72 (rfl : zm_sh[44]? = some (.inl (2, 4, .inl (fun _ => 0)))) hb (Or.inl rfl) (fun m7 hm7 => ?_)
      have hJ := hJ m7 hm7
      refine zq_aload_n d_Model_deal_73 rfl rfl ?_
      refine zm_getR fg_Model_44 d_Model_deal_74 zs_Model rfl ?_
      refine zq_iload_n d_Model_deal_77 rfl rfl ?_
      refine zq_iconst (v := 0) d_Model_deal_78 zk_i0 ?_
      obtain ⟨hb, hJ⟩ := hJ
      refine zr_ast d_Model_deal_79 (rfl : zm_sh[45]? = some (.inl (0, 4, .inl (fun _ => 0)))) hb (fun m8 hm8 => ?_)
      have hJ := hJ m8 hm8
      refine zr_iinc (d' := 1) d_Model_deal_80 zk_i1 rfl (Nat.le_of_ble_eq_true rfl) (fun y9 hy9 => ?_)
      have hJ := hJ y9 hy9
      refine zr_L (L' := [some (.ref 33), some (.int y9)]) rfl ?_
      refine zq_goto (tgt := 33) d_Model_deal_83 (by decide) ?_
      refine zr_less (L' := [some (.ref 33), some (.int y9)]) ⟨rfl, ⟨rfl, trivial⟩⟩ ?_
      exact ih  hJ
set_option maxHeartbeats 400000 in
theorem s_Model_deal_L11 {g : zk_T} {K : Int32 → zm → Prop} : ∀ (n : Nat) {x1 : Int32} {m : zm}, j_Model_deal_L11   K n x1 m → zq_V (zk_g g) ("RiichiTableModel", prog_9_method_5_code, 2, (some .boolean), false, zq_rm 6 0 0) 0 0 11 [some (.ref 33), some (.int x1)] [] (zm_hp m) (zm_QI K) := by
  intro n
  induction n with
  | zero =>
    intro x1 m hJ
    exact False.elim hJ
  | succ n ih =>
    intro x1 m hJ
    rw [j_Model_deal_L11] at hJ
    refine zq_iload_n d_Model_deal_11 rfl rfl ?_
    refine zq_sipush (v := 136) d_Model_deal_12 zk_s136 ?_
    refine zq_icmp_ge (tgt := 31) d_Model_deal_15 (by decide) (fun c => ?_) (fun c => ?_)
    · have hJ := hJ.1 c
      refine zq_iconst (v := 0) d_Model_deal_31 zk_i0 ?_
      refine zr_istore_n (L' := [some (.ref 33), some (.int 0)]) d_Model_deal_32 rfl (Nat.le_of_ble_eq_true rfl) rfl ?_
      refine zr_less (L' := [some (.ref 33), some (.int 0)]) ⟨rfl, ⟨rfl, trivial⟩⟩ ?_
      obtain ⟨n33, hJ⟩ := hJ
      exact s_Model_deal_L33   n33  hJ
    · have hJ := hJ.2 c
      refine zq_aload_n d_Model_deal_18 rfl rfl ?_
      refine zm_getR fg_Model_16 d_Model_deal_19 zs_Model rfl ?_
      refine zq_iload_n d_Model_deal_22 rfl rfl ?_
      refine zq_iconst (v := 0) d_Model_deal_23 zk_i0 ?_
      obtain ⟨hb, hJ⟩ := hJ
      refine zr_ast d_Model_deal_24 (rfl : zm_sh[36]? = some (.inl (0, 136, .inl (fun _ => 0)))) hb (fun m1 hm1 => ?_)
      have hJ := hJ m1 hm1
      refine zr_iinc (d' := 1) d_Model_deal_25 zk_i1 rfl (Nat.le_of_ble_eq_true rfl) (fun y2 hy2 => ?_)
      have hJ := hJ y2 hy2
      refine zr_L (L' := [some (.ref 33), some (.int y2)]) rfl ?_
      refine zq_goto (tgt := 11) d_Model_deal_28 (by decide) ?_
      refine zr_less (L' := [some (.ref 33), some (.int y2)]) ⟨rfl, ⟨rfl, trivial⟩⟩ ?_
      exact ih  hJ
set_option maxHeartbeats 400000 in
theorem s_Model_deal {g : zk_T} {K : Int32 → zm → Prop} {m : zm} (hJ : j_Model_deal  m K) : zq_Mt (zk_g g) y_Model_deal 6 0 0 [.ref 33] (zm_hp m) (zm_QI K) := by
  unfold j_Model_deal at hJ
  refine zq_meth (ini := false) rfl (fun h => by cases h) (Nat.le_of_ble_eq_true rfl) ?_
  refine zr_L (F := ("RiichiTableModel", prog_9_method_5_code, 2, (some .boolean), false, zq_rm 6 0 0)) (L' := [some (.ref 33), none]) rfl ?_
  refine zq_aload_n d_Model_deal_0 rfl rfl ?_
  refine zm_getI fg_Model_90 d_Model_deal_1 zs_Model rfl ?_
  refine zq_if_eq (tgt := 9) d_Model_deal_4 (by decide) (fun c => ?_) (fun c => ?_)
  · have hJ := hJ.1 c
    refine zq_iconst (v := 0) d_Model_deal_9 zk_i0 ?_
    refine zr_istore_n (L' := [some (.ref 33), some (.int 0)]) d_Model_deal_10 rfl (Nat.le_of_ble_eq_true rfl) rfl ?_
    refine zr_less (L' := [some (.ref 33), some (.int 0)]) ⟨rfl, ⟨rfl, trivial⟩⟩ ?_
    obtain ⟨n11, hJ⟩ := hJ
    exact s_Model_deal_L11   n11  hJ
  · have hJ := hJ.2 c
    refine zq_iconst (v := 0) d_Model_deal_7 zk_i0 ?_
    exact zq_iret d_Model_deal_8 rfl (zm_isB.nar (Or.inl rfl)) (Nat.le_refl _) (Nat.le_refl _) ⟨_, _, rfl, rfl, hJ⟩
set_option maxHeartbeats 400000 in
theorem s_Model_ownWait_L54 {g : zk_T} {a1 : Int32} {R12 : Int64 → Int32 → Int32 → zm → Prop} {K : Int32 → zm → Prop} (hR12 : ∀ {x2 : Int64} {x4 : Int32} {x5 : Int32} {m : zm}, R12 x2 x4 x5 m → zq_V (zk_g g) ("RiichiTableModel", prog_9_method_20_code, 6, (some .boolean), false, zq_rm 4 0 0) 0 0 12 [some (.ref 33), some (.int a1), some (.long x2), none, some (.int x4), some (.int x5)] [] (zm_hp m) (zm_QI K)) {x2 : Int64} {x5 : Int32} {t0 : Int32} {m : zm} (hJ : j_Model_ownWait_L54 a1 R12 K x2 x5 t0 m) : zq_V (zk_g g) ("RiichiTableModel", prog_9_method_20_code, 6, (some .boolean), false, zq_rm 4 0 0) 0 0 54 [some (.ref 33), some (.int a1), some (.long x2), none, none, some (.int x5)] [.int t0] (zm_hp m) (zm_QI K) := by
  unfold j_Model_ownWait_L54 at hJ
  refine zr_istore (L' := [some (.ref 33), some (.int a1), some (.long x2), none, some (.int t0), some (.int x5)]) d_Model_ownWait_54 (Nat.le_of_ble_eq_true rfl) rfl ?_
  refine zr_iinc (d' := 1) d_Model_ownWait_56 zk_i1 rfl (Nat.le_of_ble_eq_true rfl) (fun y3 hy3 => ?_)
  have hJ := hJ y3 hy3
  refine zr_L (L' := [some (.ref 33), some (.int a1), some (.long x2), none, some (.int t0), some (.int y3)]) rfl ?_
  refine zq_goto (tgt := 12) d_Model_ownWait_59 (by decide) ?_
  refine zr_less (L' := [some (.ref 33), some (.int a1), some (.long x2), none, some (.int t0), some (.int y3)]) ⟨rfl, ⟨rfl, ⟨rfl, ⟨rfl, ⟨rfl, trivial⟩⟩⟩⟩⟩ ?_
  exact hR12  hJ
set_option maxHeartbeats 400000 in
theorem s_Model_ownWait_L49 {g : zk_T} {a1 : Int32} {R12 : Int64 → Int32 → Int32 → zm → Prop} {K : Int32 → zm → Prop} (hR12 : ∀ {x2 : Int64} {x4 : Int32} {x5 : Int32} {m : zm}, R12 x2 x4 x5 m → zq_V (zk_g g) ("RiichiTableModel", prog_9_method_20_code, 6, (some .boolean), false, zq_rm 4 0 0) 0 0 12 [some (.ref 33), some (.int a1), some (.long x2), none, some (.int x4), some (.int x5)] [] (zm_hp m) (zm_QI K)) {x2 : Int64} {x5 : Int32} {m : zm} (hJ : j_Model_ownWait_L49 a1 R12 K x2 x5 m) : zq_V (zk_g g) ("RiichiTableModel", prog_9_method_20_code, 6, (some .boolean), false, zq_rm 4 0 0) 0 0 49 [some (.ref 33), some (.int a1), some (.long x2), none, none, some (.int x5)] [] (zm_hp m) (zm_QI K) := by
  unfold j_Model_ownWait_L49 at hJ
  refine zq_iconst (v := 1) d_Model_ownWait_49 zk_i1 ?_
  refine zq_goto (tgt := 54) d_Model_ownWait_50 (by decide) ?_
  refine zr_less (L' := [some (.ref 33), some (.int a1), some (.long x2), none, none, some (.int x5)]) ⟨rfl, ⟨rfl, ⟨rfl, ⟨rfl, trivial⟩⟩⟩⟩ ?_
  exact s_Model_ownWait_L54  hR12  hJ
set_option maxHeartbeats 400000 in
theorem s_Model_ownWait_L12 {g : zk_T} {a1 : Int32} {K : Int32 → zm → Prop} : ∀ (n : Nat) {x2 : Int64} {x4 : Int32} {x5 : Int32} {m : zm}, j_Model_ownWait_L12 a1  K n x2 x4 x5 m → zq_V (zk_g g) ("RiichiTableModel", prog_9_method_20_code, 6, (some .boolean), false, zq_rm 4 0 0) 0 0 12 [some (.ref 33), some (.int a1), some (.long x2), none, some (.int x4), some (.int x5)] [] (zm_hp m) (zm_QI K) := by
  intro n
  induction n with
  | zero =>
    intro x2 x4 x5 m hJ
    exact False.elim hJ
  | succ n ih =>
    intro x2 x4 x5 m hJ
    rw [j_Model_ownWait_L12] at hJ
    refine zq_iload d_Model_ownWait_12 rfl ?_
    refine zq_aload_n d_Model_ownWait_14 rfl rfl ?_
    refine zm_getR fg_Model_28 d_Model_ownWait_15 zs_Model rfl ?_
    refine zq_iload_n d_Model_ownWait_18 rfl rfl ?_
    obtain ⟨hb, hJ⟩ := hJ
    refine zm_ald d_Model_ownWait_19 (rfl : zm_sh[40]? = some (.inl (0, 4, .inl (fun _ => 0)))) hb ?_
    refine zq_icmp_ge (tgt := 62) d_Model_ownWait_20 (by decide) (fun c => ?_) (fun c => ?_)
    · have hJ := hJ.1 c
      refine zq_iload d_Model_ownWait_62 rfl ?_
      exact zq_iret d_Model_ownWait_64 rfl hJ.1.nar (Nat.le_refl _) (Nat.le_refl _) ⟨_, _, rfl, rfl, hJ.2⟩
    · have hJ := hJ.2 c
      refine zq_iload d_Model_ownWait_23 rfl ?_
      refine zq_if_ne (tgt := 49) d_Model_ownWait_25 (by decide) (fun c => ?_) (fun c => ?_)
      · have hJ := hJ.1 c
        refine zr_less (L' := [some (.ref 33), some (.int a1), some (.long x2), none, none, some (.int x5)]) ⟨rfl, ⟨rfl, ⟨rfl, ⟨rfl, trivial⟩⟩⟩⟩ ?_
        exact s_Model_ownWait_L49  ih  hJ
      · have hJ := hJ.2 c
        refine zq_lload_n d_Model_ownWait_28 rfl rfl ?_
        refine zq_aload_n d_Model_ownWait_29 rfl rfl ?_
        refine zm_getR fg_Model_31 d_Model_ownWait_30 zs_Model rfl ?_
        refine zq_bipush (v := 100) d_Model_ownWait_33 zk_b100 ?_
        refine zq_iload_n d_Model_ownWait_35 rfl rfl ?_
        refine zq_imul d_Model_ownWait_36 ?_
        refine zq_iload d_Model_ownWait_37 rfl ?_
        refine zq_iadd d_Model_ownWait_39 ?_
        obtain ⟨hb, hJ⟩ := hJ
        refine zm_ald d_Model_ownWait_40 (rfl : zm_sh[41]? = some (.inl (0, 400, .inl (fun _ => 0)))) hb ?_
        refine zq_lshr d_Model_ownWait_41 ?_
        refine zq_lconst (v := 1) d_Model_ownWait_42 zk_l1 ?_
        refine zq_land d_Model_ownWait_43 ?_
        refine zq_lconst (v := 1) d_Model_ownWait_44 zk_l1 ?_
        refine zq_lcmp d_Model_ownWait_45 ?_
        refine zq_if_ne (tgt := 53) d_Model_ownWait_46 (by decide) (fun c => ?_) (fun c => ?_)
        · have hJ := hJ.1 c
          refine zq_iconst (v := 0) d_Model_ownWait_53 zk_i0 ?_
          refine zr_less (L' := [some (.ref 33), some (.int a1), some (.long x2), none, none, some (.int x5)]) ⟨rfl, ⟨rfl, ⟨rfl, ⟨rfl, trivial⟩⟩⟩⟩ ?_
          exact s_Model_ownWait_L54  ih  hJ
        · have hJ := hJ.2 c
          refine zr_less (L' := [some (.ref 33), some (.int a1), some (.long x2), none, none, some (.int x5)]) ⟨rfl, ⟨rfl, ⟨rfl, ⟨rfl, trivial⟩⟩⟩⟩ ?_
          exact s_Model_ownWait_L49  ih  hJ
set_option maxHeartbeats 400000 in
theorem s_Model_ownWait {g : zk_T} {a1 : Int32} {K : Int32 → zm → Prop} {m : zm} (hJ : j_Model_ownWait a1 m K) : zq_Mt (zk_g g) y_Model_ownWait 4 0 0 [.ref 33, .int a1] (zm_hp m) (zm_QI K) := by
  unfold j_Model_ownWait at hJ
  refine zq_meth (ini := false) rfl (fun h => by cases h) (Nat.le_of_ble_eq_true rfl) ?_
  refine zr_L (F := ("RiichiTableModel", prog_9_method_20_code, 6, (some .boolean), false, zq_rm 4 0 0)) (L' := [some (.ref 33), some (.int a1), none, none, none, none]) rfl ?_
  refine zq_aload_n d_Model_ownWait_0 rfl rfl ?_
  refine zq_iload_n d_Model_ownWait_1 rfl rfl ?_
  refine zr_cvL (q := 33) (as := [.int a1]) (st := []) d_Model_ownWait_2 cc_Model_177 cv_Model_waitsOf zs_Model (s_Model_waitsOf  hJ) rfl ⟨Nat.le_of_ble_eq_true rfl, Nat.le_of_ble_eq_true rfl⟩ (Nat.le_of_ble_eq_true rfl) ⟨Nat.le_refl _, Nat.le_refl _⟩ rfl (fun r2 m1 hJ => ?_)
  refine zr_lstore_n (L' := [some (.ref 33), some (.int a1), some (.long r2), none, none, none]) d_Model_ownWait_5 rfl (Nat.le_of_ble_eq_true rfl) rfl ?_
  refine zq_iconst (v := 0) d_Model_ownWait_6 zk_i0 ?_
  refine zr_istore (L' := [some (.ref 33), some (.int a1), some (.long r2), none, some (.int 0), none]) d_Model_ownWait_7 (Nat.le_of_ble_eq_true rfl) rfl ?_
  refine zq_iconst (v := 0) d_Model_ownWait_9 zk_i0 ?_
  refine zr_istore (L' := [some (.ref 33), some (.int a1), some (.long r2), none, some (.int 0), some (.int 0)]) d_Model_ownWait_10 (Nat.le_of_ble_eq_true rfl) rfl ?_
  refine zr_less (L' := [some (.ref 33), some (.int a1), some (.long r2), none, some (.int 0), some (.int 0)]) ⟨rfl, ⟨rfl, ⟨rfl, ⟨rfl, ⟨rfl, trivial⟩⟩⟩⟩⟩ ?_
  obtain ⟨n12, hJ⟩ := hJ
  exact s_Model_ownWait_L12   n12  hJ
set_option maxHeartbeats 400000 in
theorem s_Model_isFuriten_L22 {g : zk_T} {a1 : Int32} {K : Int32 → zm → Prop} {t0 : Int32} {m : zm} (hJ : j_Model_isFuriten_L22 a1  K t0 m) : zq_V (zk_g g) ("RiichiTableModel", prog_9_method_21_code, 2, (some .boolean), false, zq_rm 5 0 0) 0 0 22 [some (.ref 33), some (.int a1)] [.int t0] (zm_hp m) (zm_QI K) := by
  unfold j_Model_isFuriten_L22 at hJ
  exact zq_iret d_Model_isFuriten_22 rfl hJ.1.nar (Nat.le_refl _) (Nat.le_refl _) ⟨_, _, rfl, rfl, hJ.2⟩
set_option maxHeartbeats 400000 in
theorem s_Model_isFuriten_L17 {g : zk_T} {a1 : Int32} {K : Int32 → zm → Prop} {m : zm} (hJ : j_Model_isFuriten_L17 a1  K  m) : zq_V (zk_g g) ("RiichiTableModel", prog_9_method_21_code, 2, (some .boolean), false, zq_rm 5 0 0) 0 0 17 [some (.ref 33), some (.int a1)] [] (zm_hp m) (zm_QI K) := by
  unfold j_Model_isFuriten_L17 at hJ
  refine zq_iconst (v := 1) d_Model_isFuriten_17 zk_i1 ?_
  refine zq_goto (tgt := 22) d_Model_isFuriten_18 (by decide) ?_
  refine zr_less (L' := [some (.ref 33), some (.int a1)]) ⟨rfl, ⟨rfl, trivial⟩⟩ ?_
  exact s_Model_isFuriten_L22    hJ
set_option maxHeartbeats 400000 in
theorem s_Model_isFuriten {g : zk_T} {a1 : Int32} {K : Int32 → zm → Prop} {m : zm} (hJ : j_Model_isFuriten a1 m K) : zq_Mt (zk_g g) y_Model_isFuriten 5 0 0 [.ref 33, .int a1] (zm_hp m) (zm_QI K) := by
  unfold j_Model_isFuriten at hJ
  refine zq_meth (ini := false) rfl (fun h => by cases h) (Nat.le_of_ble_eq_true rfl) ?_
  refine zr_L (F := ("RiichiTableModel", prog_9_method_21_code, 2, (some .boolean), false, zq_rm 5 0 0)) (L' := [some (.ref 33), some (.int a1)]) rfl ?_
  refine zq_aload_n d_Model_isFuriten_0 rfl rfl ?_
  refine zm_getR fg_Model_41 d_Model_isFuriten_1 zs_Model rfl ?_
  refine zq_iload_n d_Model_isFuriten_4 rfl rfl ?_
  obtain ⟨hb, hJ⟩ := hJ
  refine zm_zld d_Model_isFuriten_5 (rfl : zm_sh[44]? = some (.inl (2, 4, .inl (fun _ => 0)))) hb ?_
  refine zq_if_ne (tgt := 17) d_Model_isFuriten_6 (by decide) (fun c => ?_) (fun c => ?_)
  · have hJ := hJ.1 c
    refine zr_less (L' := [some (.ref 33), some (.int a1)]) ⟨rfl, ⟨rfl, trivial⟩⟩ ?_
    exact s_Model_isFuriten_L17    hJ
  · have hJ := hJ.2 c
    refine zq_aload_n d_Model_isFuriten_9 rfl rfl ?_
    refine zq_iload_n d_Model_isFuriten_10 rfl rfl ?_
    refine zr_cvI (q := 33) (as := [.int a1]) (st := []) d_Model_isFuriten_11 cc_Model_181 cv_Model_ownWait zs_Model (s_Model_ownWait  hJ) rfl ⟨Nat.le_of_ble_eq_true rfl, Nat.le_of_ble_eq_true rfl⟩ (Nat.le_of_ble_eq_true rfl) ⟨Nat.le_refl _, Nat.le_refl _⟩ rfl (fun r2 m1 hJ => ?_)
    refine zq_if_eq (tgt := 21) d_Model_isFuriten_14 (by decide) (fun c => ?_) (fun c => ?_)
    · have hJ := hJ.1 c
      refine zq_iconst (v := 0) d_Model_isFuriten_21 zk_i0 ?_
      refine zr_less (L' := [some (.ref 33), some (.int a1)]) ⟨rfl, ⟨rfl, trivial⟩⟩ ?_
      exact s_Model_isFuriten_L22    hJ
    · have hJ := hJ.2 c
      refine zr_less (L' := [some (.ref 33), some (.int a1)]) ⟨rfl, ⟨rfl, trivial⟩⟩ ?_
      exact s_Model_isFuriten_L17    hJ
set_option maxHeartbeats 400000 in
theorem s_Model_isClosed_L39 {g : zk_T} {a1 : Int32} {R6 : Int32 → Int32 → zm → Prop} {K : Int32 → zm → Prop} (hR6 : ∀ {x2 : Int32} {x3 : Int32} {m : zm}, R6 x2 x3 m → zq_V (zk_g g) ("RiichiTableModel", prog_9_method_22_code, 4, (some .boolean), false, zq_rm 0 0 0) 0 0 6 [some (.ref 33), some (.int a1), some (.int x2), some (.int x3)] [] (zm_hp m) (zm_QI K)) {x3 : Int32} {t0 : Int32} {m : zm} (hJ : j_Model_isClosed_L39 a1 R6 K x3 t0 m) : zq_V (zk_g g) ("RiichiTableModel", prog_9_method_22_code, 4, (some .boolean), false, zq_rm 0 0 0) 0 0 39 [some (.ref 33), some (.int a1), none, some (.int x3)] [.int t0] (zm_hp m) (zm_QI K) := by
  unfold j_Model_isClosed_L39 at hJ
  refine zr_istore_n (L' := [some (.ref 33), some (.int a1), some (.int t0), some (.int x3)]) d_Model_isClosed_39 rfl (Nat.le_of_ble_eq_true rfl) rfl ?_
  refine zr_iinc (d' := 1) d_Model_isClosed_40 zk_i1 rfl (Nat.le_of_ble_eq_true rfl) (fun y2 hy2 => ?_)
  have hJ := hJ y2 hy2
  refine zr_L (L' := [some (.ref 33), some (.int a1), some (.int t0), some (.int y2)]) rfl ?_
  refine zq_goto (tgt := 6) d_Model_isClosed_43 (by decide) ?_
  refine zr_less (L' := [some (.ref 33), some (.int a1), some (.int t0), some (.int y2)]) ⟨rfl, ⟨rfl, ⟨rfl, ⟨rfl, trivial⟩⟩⟩⟩ ?_
  exact hR6  hJ
set_option maxHeartbeats 400000 in
theorem s_Model_isClosed_L38 {g : zk_T} {a1 : Int32} {R6 : Int32 → Int32 → zm → Prop} {K : Int32 → zm → Prop} (hR6 : ∀ {x2 : Int32} {x3 : Int32} {m : zm}, R6 x2 x3 m → zq_V (zk_g g) ("RiichiTableModel", prog_9_method_22_code, 4, (some .boolean), false, zq_rm 0 0 0) 0 0 6 [some (.ref 33), some (.int a1), some (.int x2), some (.int x3)] [] (zm_hp m) (zm_QI K)) {x3 : Int32} {m : zm} (hJ : j_Model_isClosed_L38 a1 R6 K x3 m) : zq_V (zk_g g) ("RiichiTableModel", prog_9_method_22_code, 4, (some .boolean), false, zq_rm 0 0 0) 0 0 38 [some (.ref 33), some (.int a1), none, some (.int x3)] [] (zm_hp m) (zm_QI K) := by
  unfold j_Model_isClosed_L38 at hJ
  refine zq_iconst (v := 0) d_Model_isClosed_38 zk_i0 ?_
  refine zr_less (L' := [some (.ref 33), some (.int a1), none, some (.int x3)]) ⟨rfl, ⟨rfl, ⟨rfl, trivial⟩⟩⟩ ?_
  exact s_Model_isClosed_L39  hR6  hJ
set_option maxHeartbeats 400000 in
theorem s_Model_isClosed_L6 {g : zk_T} {a1 : Int32} {K : Int32 → zm → Prop} : ∀ (n : Nat) {x2 : Int32} {x3 : Int32} {m : zm}, j_Model_isClosed_L6 a1  K n x2 x3 m → zq_V (zk_g g) ("RiichiTableModel", prog_9_method_22_code, 4, (some .boolean), false, zq_rm 0 0 0) 0 0 6 [some (.ref 33), some (.int a1), some (.int x2), some (.int x3)] [] (zm_hp m) (zm_QI K) := by
  intro n
  induction n with
  | zero =>
    intro x2 x3 m hJ
    exact False.elim hJ
  | succ n ih =>
    intro x2 x3 m hJ
    rw [j_Model_isClosed_L6] at hJ
    refine zq_iload_n d_Model_isClosed_6 rfl rfl ?_
    refine zq_iconst (v := 4) d_Model_isClosed_7 zk_i4 ?_
    refine zq_iload_n d_Model_isClosed_8 rfl rfl ?_
    refine zq_imul d_Model_isClosed_9 ?_
    refine zq_aload_n d_Model_isClosed_10 rfl rfl ?_
    refine zm_getR fg_Model_19 d_Model_isClosed_11 zs_Model rfl ?_
    refine zq_iload_n d_Model_isClosed_14 rfl rfl ?_
    obtain ⟨hb, hJ⟩ := hJ
    refine zm_ald d_Model_isClosed_15 (rfl : zm_sh[37]? = some (.inl (0, 4, .inl (fun _ => 0)))) hb ?_
    refine zq_iadd d_Model_isClosed_16 ?_
    refine zq_icmp_ge (tgt := 46) d_Model_isClosed_17 (by decide) (fun c => ?_) (fun c => ?_)
    · have hJ := hJ.1 c
      refine zq_iload_n d_Model_isClosed_46 rfl rfl ?_
      exact zq_iret d_Model_isClosed_47 rfl hJ.1.nar (Nat.le_refl _) (Nat.le_refl _) ⟨_, _, rfl, rfl, hJ.2⟩
    · have hJ := hJ.2 c
      refine zq_iload_n d_Model_isClosed_20 rfl rfl ?_
      refine zq_if_eq (tgt := 38) d_Model_isClosed_21 (by decide) (fun c => ?_) (fun c => ?_)
      · have hJ := hJ.1 c
        refine zr_less (L' := [some (.ref 33), some (.int a1), none, some (.int x3)]) ⟨rfl, ⟨rfl, ⟨rfl, trivial⟩⟩⟩ ?_
        exact s_Model_isClosed_L38  ih  hJ
      · have hJ := hJ.2 c
        refine zq_aload_n d_Model_isClosed_24 rfl rfl ?_
        refine zm_getR fg_Model_25 d_Model_isClosed_25 zs_Model rfl ?_
        refine zq_iload_n d_Model_isClosed_28 rfl rfl ?_
        obtain ⟨hb, hJ⟩ := hJ
        refine zm_ald d_Model_isClosed_29 (rfl : zm_sh[39]? = some (.inl (0, 16, .inl (fun _ => 0)))) hb ?_
        refine zq_iconst (v := 3) d_Model_isClosed_30 zk_i3 ?_
        refine zq_icmp_ne (tgt := 38) d_Model_isClosed_31 (by decide) (fun c => ?_) (fun c => ?_)
        · have hJ := hJ.1 c
          refine zr_less (L' := [some (.ref 33), some (.int a1), none, some (.int x3)]) ⟨rfl, ⟨rfl, ⟨rfl, trivial⟩⟩⟩ ?_
          exact s_Model_isClosed_L38  ih  hJ
        · have hJ := hJ.2 c
          refine zq_iconst (v := 1) d_Model_isClosed_34 zk_i1 ?_
          refine zq_goto (tgt := 39) d_Model_isClosed_35 (by decide) ?_
          refine zr_less (L' := [some (.ref 33), some (.int a1), none, some (.int x3)]) ⟨rfl, ⟨rfl, ⟨rfl, trivial⟩⟩⟩ ?_
          exact s_Model_isClosed_L39  ih  hJ
set_option maxHeartbeats 400000 in
theorem s_Model_isClosed {g : zk_T} {a1 : Int32} {K : Int32 → zm → Prop} {m : zm} (hJ : j_Model_isClosed a1 m K) : zq_Mt (zk_g g) y_Model_isClosed 0 0 0 [.ref 33, .int a1] (zm_hp m) (zm_QI K) := by
  unfold j_Model_isClosed at hJ
  refine zq_meth (ini := false) rfl (fun h => by cases h) (Nat.le_of_ble_eq_true rfl) ?_
  refine zr_L (F := ("RiichiTableModel", prog_9_method_22_code, 4, (some .boolean), false, zq_rm 0 0 0)) (L' := [some (.ref 33), some (.int a1), none, none]) rfl ?_
  refine zq_iconst (v := 1) d_Model_isClosed_0 zk_i1 ?_
  refine zr_istore_n (L' := [some (.ref 33), some (.int a1), some (.int 1), none]) d_Model_isClosed_1 rfl (Nat.le_of_ble_eq_true rfl) rfl ?_
  refine zq_iconst (v := 4) d_Model_isClosed_2 zk_i4 ?_
  refine zq_iload_n d_Model_isClosed_3 rfl rfl ?_
  refine zq_imul d_Model_isClosed_4 ?_
  refine zr_topi (fun y1 hy1 => ?_)
  have hJ := hJ y1 hy1
  refine zr_istore_n (L' := [some (.ref 33), some (.int a1), some (.int 1), some (.int y1)]) d_Model_isClosed_5 rfl (Nat.le_of_ble_eq_true rfl) rfl ?_
  refine zr_less (L' := [some (.ref 33), some (.int a1), some (.int 1), some (.int y1)]) ⟨rfl, ⟨rfl, ⟨rfl, ⟨rfl, trivial⟩⟩⟩⟩ ?_
  obtain ⟨n6, hJ⟩ := hJ
  exact s_Model_isClosed_L6   n6  hJ
set_option maxHeartbeats 400000 in
theorem s_Model_han_L22 {g : zk_T} {a0 : Int32} {a1 : Int32} {K : Int32 → zm → Prop} {t0 : Int32} {m : zm} (hJ : j_Model_han_L22 a0 a1  K t0 m) : zq_V (zk_g g) ("RiichiTableModel", prog_9_method_23_code, 2, (some .int), false, zq_rm 0 0 0) 0 0 22 [some (.int a0), some (.int a1)] [.int t0] (zm_hp m) (zm_QI K) := by
  unfold j_Model_han_L22 at hJ
  exact zq_iret d_Model_han_22 rfl rfl (Nat.le_refl _) (Nat.le_refl _) ⟨_, _, rfl, rfl, hJ⟩
set_option maxHeartbeats 400000 in
theorem s_Model_han_L12 {g : zk_T} {a0 : Int32} {a1 : Int32} {K : Int32 → zm → Prop} {m : zm} (hJ : j_Model_han_L12 a0 a1  K  m) : zq_V (zk_g g) ("RiichiTableModel", prog_9_method_23_code, 2, (some .int), false, zq_rm 0 0 0) 0 0 12 [some (.int a0), some (.int a1)] [] (zm_hp m) (zm_QI K) := by
  unfold j_Model_han_L12 at hJ
  refine zq_iload_n d_Model_han_12 rfl rfl ?_
  refine zq_iconst (v := 1) d_Model_han_13 zk_i1 ?_
  refine zq_icmp_ne (tgt := 21) d_Model_han_14 (by decide) (fun c => ?_) (fun c => ?_)
  · have hJ := hJ.1 c
    refine zq_iconst (v := 1) d_Model_han_21 zk_i1 ?_
    refine zr_less (L' := [some (.int a0), some (.int a1)]) ⟨rfl, ⟨rfl, trivial⟩⟩ ?_
    exact s_Model_han_L22    hJ
  · have hJ := hJ.2 c
    refine zq_iconst (v := 2) d_Model_han_17 zk_i2 ?_
    refine zq_goto (tgt := 22) d_Model_han_18 (by decide) ?_
    refine zr_less (L' := [some (.int a0), some (.int a1)]) ⟨rfl, ⟨rfl, trivial⟩⟩ ?_
    exact s_Model_han_L22    hJ
set_option maxHeartbeats 400000 in
theorem s_Model_han_L38 {g : zk_T} {a0 : Int32} {a1 : Int32} {K : Int32 → zm → Prop} {t0 : Int32} {m : zm} (hJ : j_Model_han_L38 a0 a1  K t0 m) : zq_V (zk_g g) ("RiichiTableModel", prog_9_method_23_code, 2, (some .int), false, zq_rm 0 0 0) 0 0 38 [some (.int a0), some (.int a1)] [.int t0] (zm_hp m) (zm_QI K) := by
  unfold j_Model_han_L38 at hJ
  exact zq_iret d_Model_han_38 rfl rfl (Nat.le_refl _) (Nat.le_refl _) ⟨_, _, rfl, rfl, hJ⟩
set_option maxHeartbeats 400000 in
theorem s_Model_han_L60 {g : zk_T} {a0 : Int32} {a1 : Int32} {K : Int32 → zm → Prop} {t0 : Int32} {m : zm} (hJ : j_Model_han_L60 a0 a1  K t0 m) : zq_V (zk_g g) ("RiichiTableModel", prog_9_method_23_code, 2, (some .int), false, zq_rm 0 0 0) 0 0 60 [some (.int a0), some (.int a1)] [.int t0] (zm_hp m) (zm_QI K) := by
  unfold j_Model_han_L60 at hJ
  exact zq_iret d_Model_han_60 rfl rfl (Nat.le_refl _) (Nat.le_refl _) ⟨_, _, rfl, rfl, hJ⟩
set_option maxHeartbeats 400000 in
theorem s_Model_han_L51 {g : zk_T} {a0 : Int32} {a1 : Int32} {K : Int32 → zm → Prop} {m : zm} (hJ : j_Model_han_L51 a0 a1  K  m) : zq_V (zk_g g) ("RiichiTableModel", prog_9_method_23_code, 2, (some .int), false, zq_rm 0 0 0) 0 0 51 [some (.int a0), some (.int a1)] [] (zm_hp m) (zm_QI K) := by
  unfold j_Model_han_L51 at hJ
  refine zq_iload_n d_Model_han_51 rfl rfl ?_
  refine zq_if_eq (tgt := 59) d_Model_han_52 (by decide) (fun c => ?_) (fun c => ?_)
  · have hJ := hJ.1 c
    refine zq_iconst (v := 2) d_Model_han_59 zk_i2 ?_
    refine zr_less (L' := [some (.int a0), some (.int a1)]) ⟨rfl, ⟨rfl, trivial⟩⟩ ?_
    exact s_Model_han_L60    hJ
  · have hJ := hJ.2 c
    refine zq_iconst (v := 3) d_Model_han_55 zk_i3 ?_
    refine zq_goto (tgt := 60) d_Model_han_56 (by decide) ?_
    refine zr_less (L' := [some (.int a0), some (.int a1)]) ⟨rfl, ⟨rfl, trivial⟩⟩ ?_
    exact s_Model_han_L60    hJ
set_option maxHeartbeats 400000 in
theorem s_Model_han_L77 {g : zk_T} {a0 : Int32} {a1 : Int32} {K : Int32 → zm → Prop} {t0 : Int32} {m : zm} (hJ : j_Model_han_L77 a0 a1  K t0 m) : zq_V (zk_g g) ("RiichiTableModel", prog_9_method_23_code, 2, (some .int), false, zq_rm 0 0 0) 0 0 77 [some (.int a0), some (.int a1)] [.int t0] (zm_hp m) (zm_QI K) := by
  unfold j_Model_han_L77 at hJ
  exact zq_iret d_Model_han_77 rfl rfl (Nat.le_refl _) (Nat.le_refl _) ⟨_, _, rfl, rfl, hJ⟩
set_option maxHeartbeats 400000 in
theorem s_Model_han_L89 {g : zk_T} {a0 : Int32} {a1 : Int32} {K : Int32 → zm → Prop} {t0 : Int32} {m : zm} (hJ : j_Model_han_L89 a0 a1  K t0 m) : zq_V (zk_g g) ("RiichiTableModel", prog_9_method_23_code, 2, (some .int), false, zq_rm 0 0 0) 0 0 89 [some (.int a0), some (.int a1)] [.int t0] (zm_hp m) (zm_QI K) := by
  unfold j_Model_han_L89 at hJ
  exact zq_iret d_Model_han_89 rfl rfl (Nat.le_refl _) (Nat.le_refl _) ⟨_, _, rfl, rfl, hJ⟩
set_option maxHeartbeats 400000 in
theorem s_Model_han {g : zk_T} {a0 : Int32} {a1 : Int32} {K : Int32 → zm → Prop} {m : zm} (hJ : j_Model_han a0 a1 m K) : zq_Mt (zk_g g) y_Model_han 0 0 0 [.int a0, .int a1] (zm_hp m) (zm_QI K) := by
  unfold j_Model_han at hJ
  refine zq_meth (ini := false) rfl (fun h => by cases h) (Nat.le_of_ble_eq_true rfl) ?_
  refine zr_L (F := ("RiichiTableModel", prog_9_method_23_code, 2, (some .int), false, zq_rm 0 0 0)) (L' := [some (.int a0), some (.int a1)]) rfl ?_
  refine zq_iload_n d_Model_han_0 rfl rfl ?_
  refine zq_bipush (v := 15) d_Model_han_1 zk_b15 ?_
  refine zq_icmp_lt (tgt := 12) d_Model_han_3 (by decide) (fun c => ?_) (fun c => ?_)
  · have hJ := hJ.1 c
    refine zr_less (L' := [some (.int a0), some (.int a1)]) ⟨rfl, ⟨rfl, trivial⟩⟩ ?_
    exact s_Model_han_L12    hJ
  · have hJ := hJ.2 c
    refine zq_iload_n d_Model_han_6 rfl rfl ?_
    refine zq_bipush (v := 24) d_Model_han_7 zk_b24 ?_
    refine zq_icmp_ne (tgt := 23) d_Model_han_9 (by decide) (fun c => ?_) (fun c => ?_)
    · have hJ := hJ.1 c
      refine zq_iload_n d_Model_han_23 rfl rfl ?_
      refine zq_bipush (v := 17) d_Model_han_24 zk_b17 ?_
      refine zq_icmp_gt (tgt := 39) d_Model_han_26 (by decide) (fun c => ?_) (fun c => ?_)
      · have hJ := hJ.1 c
        refine zq_iload_n d_Model_han_39 rfl rfl ?_
        refine zq_bipush (v := 18) d_Model_han_40 zk_b18 ?_
        refine zq_icmp_eq (tgt := 51) d_Model_han_42 (by decide) (fun c => ?_) (fun c => ?_)
        · have hJ := hJ.1 c
          refine zr_less (L' := [some (.int a0), some (.int a1)]) ⟨rfl, ⟨rfl, trivial⟩⟩ ?_
          exact s_Model_han_L51    hJ
        · have hJ := hJ.2 c
          refine zq_iload_n d_Model_han_45 rfl rfl ?_
          refine zq_bipush (v := 28) d_Model_han_46 zk_b28 ?_
          refine zq_icmp_ne (tgt := 61) d_Model_han_48 (by decide) (fun c => ?_) (fun c => ?_)
          · have hJ := hJ.1 c
            refine zq_iload_n d_Model_han_61 rfl rfl ?_
            refine zq_bipush (v := 29) d_Model_han_62 zk_b29 ?_
            refine zq_icmp_ne (tgt := 78) d_Model_han_64 (by decide) (fun c => ?_) (fun c => ?_)
            · have hJ := hJ.1 c
              refine zq_iload_n d_Model_han_78 rfl rfl ?_
              refine zq_bipush (v := 27) d_Model_han_79 zk_b27 ?_
              refine zq_icmp_ne (tgt := 88) d_Model_han_81 (by decide) (fun c => ?_) (fun c => ?_)
              · have hJ := hJ.1 c
                refine zq_iconst (v := 2) d_Model_han_88 zk_i2 ?_
                refine zr_less (L' := [some (.int a0), some (.int a1)]) ⟨rfl, ⟨rfl, trivial⟩⟩ ?_
                exact s_Model_han_L89    hJ
              · have hJ := hJ.2 c
                refine zq_iconst (v := 3) d_Model_han_84 zk_i3 ?_
                refine zq_goto (tgt := 89) d_Model_han_85 (by decide) ?_
                refine zr_less (L' := [some (.int a0), some (.int a1)]) ⟨rfl, ⟨rfl, trivial⟩⟩ ?_
                exact s_Model_han_L89    hJ
            · have hJ := hJ.2 c
              refine zq_iload_n d_Model_han_67 rfl rfl ?_
              refine zq_if_eq (tgt := 76) d_Model_han_68 (by decide) (fun c => ?_) (fun c => ?_)
              · have hJ := hJ.1 c
                refine zq_iconst (v := 5) d_Model_han_76 zk_i5 ?_
                refine zr_less (L' := [some (.int a0), some (.int a1)]) ⟨rfl, ⟨rfl, trivial⟩⟩ ?_
                exact s_Model_han_L77    hJ
              · have hJ := hJ.2 c
                refine zq_bipush (v := 6) d_Model_han_71 zk_b6 ?_
                refine zq_goto (tgt := 77) d_Model_han_73 (by decide) ?_
                refine zr_less (L' := [some (.int a0), some (.int a1)]) ⟨rfl, ⟨rfl, trivial⟩⟩ ?_
                exact s_Model_han_L77    hJ
          · have hJ := hJ.2 c
            refine zr_less (L' := [some (.int a0), some (.int a1)]) ⟨rfl, ⟨rfl, trivial⟩⟩ ?_
            exact s_Model_han_L51    hJ
      · have hJ := hJ.2 c
        refine zq_iload_n d_Model_han_29 rfl rfl ?_
        refine zq_if_eq (tgt := 37) d_Model_han_30 (by decide) (fun c => ?_) (fun c => ?_)
        · have hJ := hJ.1 c
          refine zq_iconst (v := 1) d_Model_han_37 zk_i1 ?_
          refine zr_less (L' := [some (.int a0), some (.int a1)]) ⟨rfl, ⟨rfl, trivial⟩⟩ ?_
          exact s_Model_han_L38    hJ
        · have hJ := hJ.2 c
          refine zq_iconst (v := 2) d_Model_han_33 zk_i2 ?_
          refine zq_goto (tgt := 38) d_Model_han_34 (by decide) ?_
          refine zr_less (L' := [some (.int a0), some (.int a1)]) ⟨rfl, ⟨rfl, trivial⟩⟩ ?_
          exact s_Model_han_L38    hJ
    · have hJ := hJ.2 c
      refine zr_less (L' := [some (.int a0), some (.int a1)]) ⟨rfl, ⟨rfl, trivial⟩⟩ ?_
      exact s_Model_han_L12    hJ
set_option maxHeartbeats 400000 in
theorem s_Model_baseOf_L56 {g : zk_T} {a0 : Int32} {a1 : Int32} {K : Int32 → zm → Prop} {t0 : Int32} {m : zm} (hJ : j_Model_baseOf_L56 a0 a1  K t0 m) : zq_V (zk_g g) ("RiichiTableModel", prog_9_method_24_code, 3, (some .int), false, zq_rm 0 0 0) 0 0 56 [some (.int a0), some (.int a1), none] [.int t0] (zm_hp m) (zm_QI K) := by
  unfold j_Model_baseOf_L56 at hJ
  exact zq_iret d_Model_baseOf_56 rfl rfl (Nat.le_refl _) (Nat.le_refl _) ⟨_, _, rfl, rfl, hJ⟩
set_option maxHeartbeats 400000 in
theorem s_Model_baseOf_L77 {g : zk_T} {a0 : Int32} {a1 : Int32} {K : Int32 → zm → Prop} {t0 : Int32} {m : zm} (hJ : j_Model_baseOf_L77 a0 a1  K t0 m) : zq_V (zk_g g) ("RiichiTableModel", prog_9_method_24_code, 3, (some .int), false, zq_rm 0 0 0) 0 0 77 [some (.int a0), some (.int a1), none] [.int t0] (zm_hp m) (zm_QI K) := by
  unfold j_Model_baseOf_L77 at hJ
  exact zq_iret d_Model_baseOf_77 rfl rfl (Nat.le_refl _) (Nat.le_refl _) ⟨_, _, rfl, rfl, hJ⟩
set_option maxHeartbeats 400000 in
theorem s_Model_baseOf {g : zk_T} {a0 : Int32} {a1 : Int32} {K : Int32 → zm → Prop} {m : zm} (hJ : j_Model_baseOf a0 a1 m K) : zq_Mt (zk_g g) y_Model_baseOf 0 0 0 [.int a0, .int a1] (zm_hp m) (zm_QI K) := by
  unfold j_Model_baseOf at hJ
  refine zq_meth (ini := false) rfl (fun h => by cases h) (Nat.le_of_ble_eq_true rfl) ?_
  refine zr_L (F := ("RiichiTableModel", prog_9_method_24_code, 3, (some .int), false, zq_rm 0 0 0)) (L' := [some (.int a0), some (.int a1), none]) rfl ?_
  refine zq_iload_n d_Model_baseOf_0 rfl rfl ?_
  refine zq_iconst (v := 5) d_Model_baseOf_1 zk_i5 ?_
  refine zq_icmp_lt (tgt := 57) d_Model_baseOf_2 (by decide) (fun c => ?_) (fun c => ?_)
  · have hJ := hJ.1 c
    refine zq_iload_n d_Model_baseOf_57 rfl rfl ?_
    refine zq_iconst (v := 2) d_Model_baseOf_58 zk_i2 ?_
    refine zq_iload_n d_Model_baseOf_59 rfl rfl ?_
    refine zq_iadd d_Model_baseOf_60 ?_
    refine zq_ishl d_Model_baseOf_61 ?_
    refine zr_topi (fun y1 hy1 => ?_)
    have hJ := hJ y1 hy1
    refine zr_istore_n (L' := [some (.int a0), some (.int a1), some (.int y1)]) d_Model_baseOf_62 rfl (Nat.le_of_ble_eq_true rfl) rfl ?_
    refine zq_iload_n d_Model_baseOf_63 rfl rfl ?_
    refine zq_sipush (v := 2000) d_Model_baseOf_64 zk_s2000 ?_
    refine zq_icmp_le (tgt := 76) d_Model_baseOf_67 (by decide) (fun c => ?_) (fun c => ?_)
    · have hJ := hJ.1 c
      refine zq_iload_n d_Model_baseOf_76 rfl rfl ?_
      refine zr_less (L' := [some (.int a0), some (.int a1), none]) ⟨rfl, ⟨rfl, trivial⟩⟩ ?_
      exact s_Model_baseOf_L77    hJ
    · have hJ := hJ.2 c
      refine zq_sipush (v := 2000) d_Model_baseOf_70 zk_s2000 ?_
      refine zq_goto (tgt := 77) d_Model_baseOf_73 (by decide) ?_
      refine zr_less (L' := [some (.int a0), some (.int a1), none]) ⟨rfl, ⟨rfl, trivial⟩⟩ ?_
      exact s_Model_baseOf_L77    hJ
  · have hJ := hJ.2 c
    refine zq_iload_n d_Model_baseOf_5 rfl rfl ?_
    refine zq_bipush (v := 13) d_Model_baseOf_6 zk_b13 ?_
    refine zq_icmp_lt (tgt := 17) d_Model_baseOf_8 (by decide) (fun c => ?_) (fun c => ?_)
    · have hJ := hJ.1 c
      refine zq_iload_n d_Model_baseOf_17 rfl rfl ?_
      refine zq_bipush (v := 11) d_Model_baseOf_18 zk_b11 ?_
      refine zq_icmp_lt (tgt := 29) d_Model_baseOf_20 (by decide) (fun c => ?_) (fun c => ?_)
      · have hJ := hJ.1 c
        refine zq_iload_n d_Model_baseOf_29 rfl rfl ?_
        refine zq_bipush (v := 8) d_Model_baseOf_30 zk_b8 ?_
        refine zq_icmp_lt (tgt := 41) d_Model_baseOf_32 (by decide) (fun c => ?_) (fun c => ?_)
        · have hJ := hJ.1 c
          refine zq_iload_n d_Model_baseOf_41 rfl rfl ?_
          refine zq_bipush (v := 6) d_Model_baseOf_42 zk_b6 ?_
          refine zq_icmp_lt (tgt := 53) d_Model_baseOf_44 (by decide) (fun c => ?_) (fun c => ?_)
          · have hJ := hJ.1 c
            refine zq_sipush (v := 2000) d_Model_baseOf_53 zk_s2000 ?_
            refine zr_less (L' := [some (.int a0), some (.int a1), none]) ⟨rfl, ⟨rfl, trivial⟩⟩ ?_
            exact s_Model_baseOf_L56    hJ
          · have hJ := hJ.2 c
            refine zq_sipush (v := 3000) d_Model_baseOf_47 zk_s3000 ?_
            refine zq_goto (tgt := 56) d_Model_baseOf_50 (by decide) ?_
            refine zr_less (L' := [some (.int a0), some (.int a1), none]) ⟨rfl, ⟨rfl, trivial⟩⟩ ?_
            exact s_Model_baseOf_L56    hJ
        · have hJ := hJ.2 c
          refine zq_sipush (v := 4000) d_Model_baseOf_35 zk_s4000 ?_
          refine zq_goto (tgt := 56) d_Model_baseOf_38 (by decide) ?_
          refine zr_less (L' := [some (.int a0), some (.int a1), none]) ⟨rfl, ⟨rfl, trivial⟩⟩ ?_
          exact s_Model_baseOf_L56    hJ
      · have hJ := hJ.2 c
        refine zq_sipush (v := 6000) d_Model_baseOf_23 zk_s6000 ?_
        refine zq_goto (tgt := 56) d_Model_baseOf_26 (by decide) ?_
        refine zr_less (L' := [some (.int a0), some (.int a1), none]) ⟨rfl, ⟨rfl, trivial⟩⟩ ?_
        exact s_Model_baseOf_L56    hJ
    · have hJ := hJ.2 c
      refine zq_sipush (v := 8000) d_Model_baseOf_11 zk_s8000 ?_
      refine zq_goto (tgt := 56) d_Model_baseOf_14 (by decide) ?_
      refine zr_less (L' := [some (.int a0), some (.int a1), none]) ⟨rfl, ⟨rfl, trivial⟩⟩ ?_
      exact s_Model_baseOf_L56    hJ
set_option maxHeartbeats 400000 in
theorem s_Model_seatWind {g : zk_T} {K : Int32 → zm → Prop} {m : zm} (hJ : j_Model_seatWind  m K) : zq_Mt (zk_g g) y_Model_seatWind 0 0 0 [.ref 33] (zm_hp m) (zm_QI K) := by
  unfold j_Model_seatWind at hJ
  refine zq_meth (ini := false) rfl (fun h => by cases h) (Nat.le_of_ble_eq_true rfl) ?_
  refine zr_L (F := ("RiichiTableModel", prog_9_method_25_code, 1, (some .int), false, zq_rm 0 0 0)) (L' := [some (.ref 33)]) rfl ?_
  refine zq_bipush (v := 27) d_Model_seatWind_0 zk_b27 ?_
  refine zq_aload_n d_Model_seatWind_2 rfl rfl ?_
  refine zm_getI fg_Model_184 d_Model_seatWind_3 zs_Model rfl ?_
  refine zq_aload_n d_Model_seatWind_6 rfl rfl ?_
  refine zm_getI fg_Model_96 d_Model_seatWind_7 zs_Model rfl ?_
  refine zq_isub d_Model_seatWind_10 ?_
  refine zq_iconst (v := 4) d_Model_seatWind_11 zk_i4 ?_
  refine zq_iadd d_Model_seatWind_12 ?_
  refine zq_iconst (v := 4) d_Model_seatWind_13 zk_i4 ?_
  refine zq_irem d_Model_seatWind_14 (by decide) ?_
  refine zq_iadd d_Model_seatWind_15 ?_
  exact zq_iret d_Model_seatWind_16 rfl rfl (Nat.le_refl _) (Nat.le_refl _) ⟨_, _, rfl, rfl, hJ⟩
set_option maxHeartbeats 400000 in
theorem s_Model_bit_L11 {g : zk_T} {a1 : Int32} {a2 : Int32} {K : Int64 → zm → Prop} {t0 : Int64} {m : zm} (hJ : j_Model_bit_L11 a1 a2  K t0 m) : zq_V (zk_g g) ("RiichiTableModel", prog_9_method_26_code, 3, (some .long), false, zq_rm 0 0 0) 0 0 11 [some (.ref 33), some (.int a1), some (.int a2)] [.long t0] (zm_hp m) (zm_QL K) := by
  unfold j_Model_bit_L11 at hJ
  exact zq_lret d_Model_bit_11 rfl (Nat.le_refl _) (Nat.le_refl _) ⟨_, _, rfl, rfl, hJ⟩
set_option maxHeartbeats 400000 in
theorem s_Model_bit {g : zk_T} {a1 : Int32} {a2 : Int32} {K : Int64 → zm → Prop} {m : zm} (hJ : j_Model_bit a1 a2 m K) : zq_Mt (zk_g g) y_Model_bit 0 0 0 [.ref 33, .int a1, .int a2] (zm_hp m) (zm_QL K) := by
  unfold j_Model_bit at hJ
  refine zq_meth (ini := false) rfl (fun h => by cases h) (Nat.le_of_ble_eq_true rfl) ?_
  refine zr_L (F := ("RiichiTableModel", prog_9_method_26_code, 3, (some .long), false, zq_rm 0 0 0)) (L' := [some (.ref 33), some (.int a1), some (.int a2)]) rfl ?_
  refine zq_iload_n d_Model_bit_0 rfl rfl ?_
  refine zq_if_eq (tgt := 10) d_Model_bit_1 (by decide) (fun c => ?_) (fun c => ?_)
  · have hJ := hJ.1 c
    refine zq_lconst (v := 0) d_Model_bit_10 zk_l0 ?_
    refine zr_less (L' := [some (.ref 33), some (.int a1), some (.int a2)]) ⟨rfl, ⟨rfl, ⟨rfl, trivial⟩⟩⟩ ?_
    exact s_Model_bit_L11    hJ
  · have hJ := hJ.2 c
    refine zq_lconst (v := 1) d_Model_bit_4 zk_l1 ?_
    refine zq_iload_n d_Model_bit_5 rfl rfl ?_
    refine zq_lshl d_Model_bit_6 ?_
    refine zq_goto (tgt := 11) d_Model_bit_7 (by decide) ?_
    refine zr_less (L' := [some (.ref 33), some (.int a1), some (.int a2)]) ⟨rfl, ⟨rfl, ⟨rfl, trivial⟩⟩⟩ ?_
    exact s_Model_bit_L11    hJ
set_option maxHeartbeats 400000 in
theorem s_Model_happened_L263 {g : zk_T} {K : Int64 → zm → Prop} {t0 : Int32} {t2 : Int64} {m : zm} (hJ : j_Model_happened_L263   K t0 t2 m) : zq_V (zk_g g) ("RiichiTableModel", prog_9_method_27_code, 5, (some .long), false, zq_rm 1 0 0) 0 0 263 [some (.ref 33), none, none, none, none] [.int t0, .ref 33, .long t2] (zm_hp m) (zm_QL K) := by
  unfold j_Model_happened_L263 at hJ
  refine zq_bipush (v := 41) d_Model_happened_263 zk_b41 ?_
  refine zr_cvL (q := 33) (as := [.int t0, .int 41]) (st := [.long t2]) d_Model_happened_265 cc_Model_187 cv_Model_bit zs_Model (s_Model_bit  hJ) rfl ⟨Nat.le_of_ble_eq_true rfl, Nat.le_of_ble_eq_true rfl⟩ (Nat.le_of_ble_eq_true rfl) ⟨Nat.le_refl _, Nat.le_refl _⟩ rfl (fun r29 m28 hJ => ?_)
  refine zq_lor d_Model_happened_268 ?_
  exact zq_lret d_Model_happened_269 rfl (Nat.le_refl _) (Nat.le_refl _) ⟨_, _, rfl, rfl, hJ⟩
set_option maxHeartbeats 400000 in
theorem s_Model_happened_L262 {g : zk_T} {K : Int64 → zm → Prop} {t1 : Int64} {m : zm} (hJ : j_Model_happened_L262   K t1 m) : zq_V (zk_g g) ("RiichiTableModel", prog_9_method_27_code, 5, (some .long), false, zq_rm 1 0 0) 0 0 262 [some (.ref 33), none, none, none, none] [.ref 33, .long t1] (zm_hp m) (zm_QL K) := by
  unfold j_Model_happened_L262 at hJ
  refine zq_iconst (v := 0) d_Model_happened_262 zk_i0 ?_
  refine zr_less (L' := [some (.ref 33), none, none, none, none]) ⟨rfl, trivial⟩ ?_
  exact s_Model_happened_L263    hJ
set_option maxHeartbeats 400000 in
theorem s_Model_happened_L238 {g : zk_T} {K : Int64 → zm → Prop} {x1 : Int32} {x4 : Int32} {t0 : Int32} {t2 : Int64} {m : zm} (hJ : j_Model_happened_L238   K x1 x4 t0 t2 m) : zq_V (zk_g g) ("RiichiTableModel", prog_9_method_27_code, 5, (some .long), false, zq_rm 1 0 0) 0 0 238 [some (.ref 33), some (.int x1), none, none, some (.int x4)] [.int t0, .ref 33, .long t2] (zm_hp m) (zm_QL K) := by
  unfold j_Model_happened_L238 at hJ
  refine zq_bipush (v := 40) d_Model_happened_238 zk_b40 ?_
  refine zr_cvL (q := 33) (as := [.int t0, .int 40]) (st := [.long t2]) d_Model_happened_240 cc_Model_187 cv_Model_bit zs_Model (s_Model_bit  hJ) rfl ⟨Nat.le_of_ble_eq_true rfl, Nat.le_of_ble_eq_true rfl⟩ (Nat.le_of_ble_eq_true rfl) ⟨Nat.le_refl _, Nat.le_refl _⟩ rfl (fun r27 m26 hJ => ?_)
  refine zq_lor d_Model_happened_243 ?_
  refine zq_aload_n d_Model_happened_244 rfl rfl ?_
  refine zq_iload d_Model_happened_245 rfl ?_
  refine zq_if_eq (tgt := 262) d_Model_happened_247 (by decide) (fun c => ?_) (fun c => ?_)
  · have hJ := hJ.1 c
    refine zr_less (L' := [some (.ref 33), none, none, none, none]) ⟨rfl, trivial⟩ ?_
    exact s_Model_happened_L262    hJ
  · have hJ := hJ.2 c
    refine zq_iload_n d_Model_happened_250 rfl rfl ?_
    refine zq_aload_n d_Model_happened_251 rfl rfl ?_
    refine zm_getI fg_Model_96 d_Model_happened_252 zs_Model rfl ?_
    refine zq_icmp_eq (tgt := 262) d_Model_happened_255 (by decide) (fun c => ?_) (fun c => ?_)
    · have hJ := hJ.1 c
      refine zr_less (L' := [some (.ref 33), none, none, none, none]) ⟨rfl, trivial⟩ ?_
      exact s_Model_happened_L262    hJ
    · have hJ := hJ.2 c
      refine zq_iconst (v := 1) d_Model_happened_258 zk_i1 ?_
      refine zq_goto (tgt := 263) d_Model_happened_259 (by decide) ?_
      refine zr_less (L' := [some (.ref 33), none, none, none, none]) ⟨rfl, trivial⟩ ?_
      exact s_Model_happened_L263    hJ
set_option maxHeartbeats 400000 in
theorem s_Model_happened_L237 {g : zk_T} {K : Int64 → zm → Prop} {x1 : Int32} {x4 : Int32} {t1 : Int64} {m : zm} (hJ : j_Model_happened_L237   K x1 x4 t1 m) : zq_V (zk_g g) ("RiichiTableModel", prog_9_method_27_code, 5, (some .long), false, zq_rm 1 0 0) 0 0 237 [some (.ref 33), some (.int x1), none, none, some (.int x4)] [.ref 33, .long t1] (zm_hp m) (zm_QL K) := by
  unfold j_Model_happened_L237 at hJ
  refine zq_iconst (v := 0) d_Model_happened_237 zk_i0 ?_
  refine zr_less (L' := [some (.ref 33), some (.int x1), none, none, some (.int x4)]) ⟨rfl, ⟨rfl, ⟨rfl, trivial⟩⟩⟩ ?_
  exact s_Model_happened_L238    hJ
set_option maxHeartbeats 400000 in
theorem s_Model_happened_L216 {g : zk_T} {K : Int64 → zm → Prop} {x1 : Int32} {x2 : Int64} {t0 : Int32} {m : zm} (hJ : j_Model_happened_L216   K x1 x2 t0 m) : zq_V (zk_g g) ("RiichiTableModel", prog_9_method_27_code, 5, (some .long), false, zq_rm 1 0 0) 0 0 216 [some (.ref 33), some (.int x1), some (.long x2), none, none] [.int t0] (zm_hp m) (zm_QL K) := by
  unfold j_Model_happened_L216 at hJ
  refine zr_istore (L' := [some (.ref 33), some (.int x1), some (.long x2), none, some (.int t0)]) d_Model_happened_216 (Nat.le_of_ble_eq_true rfl) rfl ?_
  refine zq_lload_n d_Model_happened_218 rfl rfl ?_
  refine zq_aload_n d_Model_happened_219 rfl rfl ?_
  refine zq_iload d_Model_happened_220 rfl ?_
  refine zq_if_eq (tgt := 237) d_Model_happened_222 (by decide) (fun c => ?_) (fun c => ?_)
  · have hJ := hJ.1 c
    refine zr_less (L' := [some (.ref 33), some (.int x1), none, none, some (.int t0)]) ⟨rfl, ⟨rfl, ⟨rfl, trivial⟩⟩⟩ ?_
    exact s_Model_happened_L237    hJ
  · have hJ := hJ.2 c
    refine zq_iload_n d_Model_happened_225 rfl rfl ?_
    refine zq_aload_n d_Model_happened_226 rfl rfl ?_
    refine zm_getI fg_Model_96 d_Model_happened_227 zs_Model rfl ?_
    refine zq_icmp_ne (tgt := 237) d_Model_happened_230 (by decide) (fun c => ?_) (fun c => ?_)
    · have hJ := hJ.1 c
      refine zr_less (L' := [some (.ref 33), some (.int x1), none, none, some (.int t0)]) ⟨rfl, ⟨rfl, ⟨rfl, trivial⟩⟩⟩ ?_
      exact s_Model_happened_L237    hJ
    · have hJ := hJ.2 c
      refine zq_iconst (v := 1) d_Model_happened_233 zk_i1 ?_
      refine zq_goto (tgt := 238) d_Model_happened_234 (by decide) ?_
      refine zr_less (L' := [some (.ref 33), some (.int x1), none, none, some (.int t0)]) ⟨rfl, ⟨rfl, ⟨rfl, trivial⟩⟩⟩ ?_
      exact s_Model_happened_L238    hJ
set_option maxHeartbeats 400000 in
theorem s_Model_happened_L215 {g : zk_T} {K : Int64 → zm → Prop} {x1 : Int32} {x2 : Int64} {m : zm} (hJ : j_Model_happened_L215   K x1 x2 m) : zq_V (zk_g g) ("RiichiTableModel", prog_9_method_27_code, 5, (some .long), false, zq_rm 1 0 0) 0 0 215 [some (.ref 33), some (.int x1), some (.long x2), none, none] [] (zm_hp m) (zm_QL K) := by
  unfold j_Model_happened_L215 at hJ
  refine zq_iconst (v := 0) d_Model_happened_215 zk_i0 ?_
  refine zr_less (L' := [some (.ref 33), some (.int x1), some (.long x2), none, none]) ⟨rfl, ⟨rfl, ⟨rfl, trivial⟩⟩⟩ ?_
  exact s_Model_happened_L216    hJ
set_option maxHeartbeats 400000 in
theorem s_Model_happened_L181 {g : zk_T} {K : Int64 → zm → Prop} {x1 : Int32} {t0 : Int32} {t2 : Int64} {m : zm} (hJ : j_Model_happened_L181   K x1 t0 t2 m) : zq_V (zk_g g) ("RiichiTableModel", prog_9_method_27_code, 5, (some .long), false, zq_rm 1 0 0) 0 0 181 [some (.ref 33), some (.int x1), none, none, none] [.int t0, .ref 33, .long t2] (zm_hp m) (zm_QL K) := by
  unfold j_Model_happened_L181 at hJ
  refine zq_bipush (v := 7) d_Model_happened_181 zk_b7 ?_
  refine zr_cvL (q := 33) (as := [.int t0, .int 7]) (st := [.long t2]) d_Model_happened_183 cc_Model_187 cv_Model_bit zs_Model (s_Model_bit  hJ) rfl ⟨Nat.le_of_ble_eq_true rfl, Nat.le_of_ble_eq_true rfl⟩ (Nat.le_of_ble_eq_true rfl) ⟨Nat.le_refl _, Nat.le_refl _⟩ rfl (fun r24 m23 hJ => ?_)
  refine zq_lor d_Model_happened_186 ?_
  refine zr_topl (fun y25 hy25 => ?_)
  have hJ := hJ y25 hy25
  refine zr_lstore_n (L' := [some (.ref 33), some (.int x1), some (.long y25), none, none]) d_Model_happened_187 rfl (Nat.le_of_ble_eq_true rfl) rfl ?_
  refine zq_aload_n d_Model_happened_188 rfl rfl ?_
  refine zm_getI fg_Model_191 d_Model_happened_189 zs_Model rfl ?_
  refine zq_if_eq (tgt := 215) d_Model_happened_192 (by decide) (fun c => ?_) (fun c => ?_)
  · have hJ := hJ.1 c
    refine zr_less (L' := [some (.ref 33), some (.int x1), some (.long y25), none, none]) ⟨rfl, ⟨rfl, ⟨rfl, trivial⟩⟩⟩ ?_
    exact s_Model_happened_L215    hJ
  · have hJ := hJ.2 c
    refine zq_aload_n d_Model_happened_195 rfl rfl ?_
    refine zm_getR fg_Model_28 d_Model_happened_196 zs_Model rfl ?_
    refine zq_iload_n d_Model_happened_199 rfl rfl ?_
    obtain ⟨hb, hJ⟩ := hJ
    refine zm_ald d_Model_happened_200 (rfl : zm_sh[40]? = some (.inl (0, 4, .inl (fun _ => 0)))) hb ?_
    refine zq_if_ne (tgt := 215) d_Model_happened_201 (by decide) (fun c => ?_) (fun c => ?_)
    · have hJ := hJ.1 c
      refine zr_less (L' := [some (.ref 33), some (.int x1), some (.long y25), none, none]) ⟨rfl, ⟨rfl, ⟨rfl, trivial⟩⟩⟩ ?_
      exact s_Model_happened_L215    hJ
    · have hJ := hJ.2 c
      refine zq_aload_n d_Model_happened_204 rfl rfl ?_
      refine zm_getI fg_Model_102 d_Model_happened_205 zs_Model rfl ?_
      refine zq_if_ne (tgt := 215) d_Model_happened_208 (by decide) (fun c => ?_) (fun c => ?_)
      · have hJ := hJ.1 c
        refine zr_less (L' := [some (.ref 33), some (.int x1), some (.long y25), none, none]) ⟨rfl, ⟨rfl, ⟨rfl, trivial⟩⟩⟩ ?_
        exact s_Model_happened_L215    hJ
      · have hJ := hJ.2 c
        refine zq_iconst (v := 1) d_Model_happened_211 zk_i1 ?_
        refine zq_goto (tgt := 216) d_Model_happened_212 (by decide) ?_
        refine zr_less (L' := [some (.ref 33), some (.int x1), some (.long y25), none, none]) ⟨rfl, ⟨rfl, ⟨rfl, trivial⟩⟩⟩ ?_
        exact s_Model_happened_L216    hJ
set_option maxHeartbeats 400000 in
theorem s_Model_happened_L180 {g : zk_T} {K : Int64 → zm → Prop} {x1 : Int32} {t1 : Int64} {m : zm} (hJ : j_Model_happened_L180   K x1 t1 m) : zq_V (zk_g g) ("RiichiTableModel", prog_9_method_27_code, 5, (some .long), false, zq_rm 1 0 0) 0 0 180 [some (.ref 33), some (.int x1), none, none, none] [.ref 33, .long t1] (zm_hp m) (zm_QL K) := by
  unfold j_Model_happened_L180 at hJ
  refine zq_iconst (v := 0) d_Model_happened_180 zk_i0 ?_
  refine zr_less (L' := [some (.ref 33), some (.int x1), none, none, none]) ⟨rfl, ⟨rfl, trivial⟩⟩ ?_
  exact s_Model_happened_L181    hJ
set_option maxHeartbeats 400000 in
theorem s_Model_happened_L148 {g : zk_T} {K : Int64 → zm → Prop} {x1 : Int32} {t0 : Int32} {t2 : Int64} {m : zm} (hJ : j_Model_happened_L148   K x1 t0 t2 m) : zq_V (zk_g g) ("RiichiTableModel", prog_9_method_27_code, 5, (some .long), false, zq_rm 1 0 0) 0 0 148 [some (.ref 33), some (.int x1), none, none, none] [.int t0, .ref 33, .long t2] (zm_hp m) (zm_QL K) := by
  unfold j_Model_happened_L148 at hJ
  refine zq_bipush (v := 6) d_Model_happened_148 zk_b6 ?_
  refine zr_cvL (q := 33) (as := [.int t0, .int 6]) (st := [.long t2]) d_Model_happened_150 cc_Model_187 cv_Model_bit zs_Model (s_Model_bit  hJ) rfl ⟨Nat.le_of_ble_eq_true rfl, Nat.le_of_ble_eq_true rfl⟩ (Nat.le_of_ble_eq_true rfl) ⟨Nat.le_refl _, Nat.le_refl _⟩ rfl (fun r20 m19 hJ => ?_)
  refine zq_lor d_Model_happened_153 ?_
  refine zq_aload_n d_Model_happened_154 rfl rfl ?_
  refine zq_aload_n d_Model_happened_155 rfl rfl ?_
  refine zm_getI fg_Model_191 d_Model_happened_156 zs_Model rfl ?_
  refine zq_if_ne (tgt := 180) d_Model_happened_159 (by decide) (fun c => ?_) (fun c => ?_)
  · have hJ := hJ.1 c
    refine zr_less (L' := [some (.ref 33), some (.int x1), none, none, none]) ⟨rfl, ⟨rfl, trivial⟩⟩ ?_
    exact s_Model_happened_L180    hJ
  · have hJ := hJ.2 c
    refine zq_aload_n d_Model_happened_162 rfl rfl ?_
    refine zm_getI fg_Model_197 d_Model_happened_163 zs_Model rfl ?_
    refine zq_if_ne (tgt := 180) d_Model_happened_166 (by decide) (fun c => ?_) (fun c => ?_)
    · have hJ := hJ.1 c
      refine zr_less (L' := [some (.ref 33), some (.int x1), none, none, none]) ⟨rfl, ⟨rfl, trivial⟩⟩ ?_
      exact s_Model_happened_L180    hJ
    · have hJ := hJ.2 c
      refine zq_aload_n d_Model_happened_169 rfl rfl ?_
      refine zr_cvI (q := 33) (as := []) (st := [.ref 33, .long (t2 ||| r20)]) d_Model_happened_170 cc_Model_122 cv_Model_left zs_Model (s_Model_left  hJ) rfl ⟨Nat.le_of_ble_eq_true rfl, Nat.le_of_ble_eq_true rfl⟩ (Nat.le_of_ble_eq_true rfl) ⟨Nat.le_refl _, Nat.le_refl _⟩ rfl (fun r22 m21 hJ => ?_)
      refine zq_if_ne (tgt := 180) d_Model_happened_173 (by decide) (fun c => ?_) (fun c => ?_)
      · have hJ := hJ.1 c
        refine zr_less (L' := [some (.ref 33), some (.int x1), none, none, none]) ⟨rfl, ⟨rfl, trivial⟩⟩ ?_
        exact s_Model_happened_L180    hJ
      · have hJ := hJ.2 c
        refine zq_iconst (v := 1) d_Model_happened_176 zk_i1 ?_
        refine zq_goto (tgt := 181) d_Model_happened_177 (by decide) ?_
        refine zr_less (L' := [some (.ref 33), some (.int x1), none, none, none]) ⟨rfl, ⟨rfl, trivial⟩⟩ ?_
        exact s_Model_happened_L181    hJ
set_option maxHeartbeats 400000 in
theorem s_Model_happened_L147 {g : zk_T} {K : Int64 → zm → Prop} {x1 : Int32} {t1 : Int64} {m : zm} (hJ : j_Model_happened_L147   K x1 t1 m) : zq_V (zk_g g) ("RiichiTableModel", prog_9_method_27_code, 5, (some .long), false, zq_rm 1 0 0) 0 0 147 [some (.ref 33), some (.int x1), none, none, none] [.ref 33, .long t1] (zm_hp m) (zm_QL K) := by
  unfold j_Model_happened_L147 at hJ
  refine zq_iconst (v := 0) d_Model_happened_147 zk_i0 ?_
  refine zr_less (L' := [some (.ref 33), some (.int x1), none, none, none]) ⟨rfl, ⟨rfl, trivial⟩⟩ ?_
  exact s_Model_happened_L148    hJ
set_option maxHeartbeats 400000 in
theorem s_Model_happened_L104 {g : zk_T} {K : Int64 → zm → Prop} {x1 : Int32} {t0 : Int32} {t2 : Int64} {m : zm} (hJ : j_Model_happened_L104   K x1 t0 t2 m) : zq_V (zk_g g) ("RiichiTableModel", prog_9_method_27_code, 5, (some .long), false, zq_rm 1 0 0) 0 0 104 [some (.ref 33), some (.int x1), none, none, none] [.int t0, .ref 33, .long t2] (zm_hp m) (zm_QL K) := by
  unfold j_Model_happened_L104 at hJ
  refine zq_iconst (v := 4) d_Model_happened_104 zk_i4 ?_
  refine zr_cvL (q := 33) (as := [.int t0, .int 4]) (st := [.long t2]) d_Model_happened_105 cc_Model_187 cv_Model_bit zs_Model (s_Model_bit  hJ) rfl ⟨Nat.le_of_ble_eq_true rfl, Nat.le_of_ble_eq_true rfl⟩ (Nat.le_of_ble_eq_true rfl) ⟨Nat.le_refl _, Nat.le_refl _⟩ rfl (fun r13 m12 hJ => ?_)
  refine zq_lor d_Model_happened_108 ?_
  refine zq_aload_n d_Model_happened_109 rfl rfl ?_
  refine zq_aload_n d_Model_happened_110 rfl rfl ?_
  refine zm_getI fg_Model_197 d_Model_happened_111 zs_Model rfl ?_
  refine zq_iconst (v := 5) d_Model_happened_114 zk_i5 ?_
  refine zr_cvL (q := 33) (as := [.int (m12.1 33 35), .int 5]) (st := [.long (t2 ||| r13)]) d_Model_happened_115 cc_Model_187 cv_Model_bit zs_Model (s_Model_bit  hJ) rfl ⟨Nat.le_of_ble_eq_true rfl, Nat.le_of_ble_eq_true rfl⟩ (Nat.le_of_ble_eq_true rfl) ⟨Nat.le_refl _, Nat.le_refl _⟩ rfl (fun r15 m14 hJ => ?_)
  refine zq_lor d_Model_happened_118 ?_
  refine zr_topl (fun y16 hy16 => ?_)
  have hJ := hJ y16 hy16
  refine zr_lstore_n (L' := [some (.ref 33), some (.int x1), some (.long y16), none, none]) d_Model_happened_119 rfl (Nat.le_of_ble_eq_true rfl) rfl ?_
  refine zq_lload_n d_Model_happened_120 rfl rfl ?_
  refine zq_aload_n d_Model_happened_121 rfl rfl ?_
  refine zq_aload_n d_Model_happened_122 rfl rfl ?_
  refine zm_getI fg_Model_191 d_Model_happened_123 zs_Model rfl ?_
  refine zq_if_eq (tgt := 147) d_Model_happened_126 (by decide) (fun c => ?_) (fun c => ?_)
  · have hJ := hJ.1 c
    refine zr_less (L' := [some (.ref 33), some (.int x1), none, none, none]) ⟨rfl, ⟨rfl, trivial⟩⟩ ?_
    exact s_Model_happened_L147    hJ
  · have hJ := hJ.2 c
    refine zq_aload_n d_Model_happened_129 rfl rfl ?_
    refine zm_getI fg_Model_119 d_Model_happened_130 zs_Model rfl ?_
    refine zq_if_ne (tgt := 147) d_Model_happened_133 (by decide) (fun c => ?_) (fun c => ?_)
    · have hJ := hJ.1 c
      refine zr_less (L' := [some (.ref 33), some (.int x1), none, none, none]) ⟨rfl, ⟨rfl, trivial⟩⟩ ?_
      exact s_Model_happened_L147    hJ
    · have hJ := hJ.2 c
      refine zq_aload_n d_Model_happened_136 rfl rfl ?_
      refine zr_cvI (q := 33) (as := []) (st := [.ref 33, .long y16]) d_Model_happened_137 cc_Model_122 cv_Model_left zs_Model (s_Model_left  hJ) rfl ⟨Nat.le_of_ble_eq_true rfl, Nat.le_of_ble_eq_true rfl⟩ (Nat.le_of_ble_eq_true rfl) ⟨Nat.le_refl _, Nat.le_refl _⟩ rfl (fun r18 m17 hJ => ?_)
      refine zq_if_ne (tgt := 147) d_Model_happened_140 (by decide) (fun c => ?_) (fun c => ?_)
      · have hJ := hJ.1 c
        refine zr_less (L' := [some (.ref 33), some (.int x1), none, none, none]) ⟨rfl, ⟨rfl, trivial⟩⟩ ?_
        exact s_Model_happened_L147    hJ
      · have hJ := hJ.2 c
        refine zq_iconst (v := 1) d_Model_happened_143 zk_i1 ?_
        refine zq_goto (tgt := 148) d_Model_happened_144 (by decide) ?_
        refine zr_less (L' := [some (.ref 33), some (.int x1), none, none, none]) ⟨rfl, ⟨rfl, trivial⟩⟩ ?_
        exact s_Model_happened_L148    hJ
set_option maxHeartbeats 400000 in
theorem s_Model_happened_L103 {g : zk_T} {K : Int64 → zm → Prop} {x1 : Int32} {t1 : Int64} {m : zm} (hJ : j_Model_happened_L103   K x1 t1 m) : zq_V (zk_g g) ("RiichiTableModel", prog_9_method_27_code, 5, (some .long), false, zq_rm 1 0 0) 0 0 103 [some (.ref 33), some (.int x1), none, none, none] [.ref 33, .long t1] (zm_hp m) (zm_QL K) := by
  unfold j_Model_happened_L103 at hJ
  refine zq_iconst (v := 0) d_Model_happened_103 zk_i0 ?_
  refine zr_less (L' := [some (.ref 33), some (.int x1), none, none, none]) ⟨rfl, ⟨rfl, trivial⟩⟩ ?_
  exact s_Model_happened_L104    hJ
set_option maxHeartbeats 400000 in
theorem s_Model_happened_L79 {g : zk_T} {K : Int64 → zm → Prop} {x1 : Int32} {t0 : Int32} {t2 : Int64} {m : zm} (hJ : j_Model_happened_L79   K x1 t0 t2 m) : zq_V (zk_g g) ("RiichiTableModel", prog_9_method_27_code, 5, (some .long), false, zq_rm 1 0 0) 0 0 79 [some (.ref 33), some (.int x1), none, none, none] [.int t0, .ref 33, .long t2] (zm_hp m) (zm_QL K) := by
  unfold j_Model_happened_L79 at hJ
  refine zq_iconst (v := 3) d_Model_happened_79 zk_i3 ?_
  refine zr_cvL (q := 33) (as := [.int t0, .int 3]) (st := [.long t2]) d_Model_happened_80 cc_Model_187 cv_Model_bit zs_Model (s_Model_bit  hJ) rfl ⟨Nat.le_of_ble_eq_true rfl, Nat.le_of_ble_eq_true rfl⟩ (Nat.le_of_ble_eq_true rfl) ⟨Nat.le_refl _, Nat.le_refl _⟩ rfl (fun r11 m10 hJ => ?_)
  refine zq_lor d_Model_happened_83 ?_
  refine zq_aload_n d_Model_happened_84 rfl rfl ?_
  refine zq_aload_n d_Model_happened_85 rfl rfl ?_
  refine zm_getI fg_Model_191 d_Model_happened_86 zs_Model rfl ?_
  refine zq_if_eq (tgt := 103) d_Model_happened_89 (by decide) (fun c => ?_) (fun c => ?_)
  · have hJ := hJ.1 c
    refine zr_less (L' := [some (.ref 33), some (.int x1), none, none, none]) ⟨rfl, ⟨rfl, trivial⟩⟩ ?_
    exact s_Model_happened_L103    hJ
  · have hJ := hJ.2 c
    refine zq_aload_n d_Model_happened_92 rfl rfl ?_
    refine zm_getI fg_Model_119 d_Model_happened_93 zs_Model rfl ?_
    refine zq_if_eq (tgt := 103) d_Model_happened_96 (by decide) (fun c => ?_) (fun c => ?_)
    · have hJ := hJ.1 c
      refine zr_less (L' := [some (.ref 33), some (.int x1), none, none, none]) ⟨rfl, ⟨rfl, trivial⟩⟩ ?_
      exact s_Model_happened_L103    hJ
    · have hJ := hJ.2 c
      refine zq_iconst (v := 1) d_Model_happened_99 zk_i1 ?_
      refine zq_goto (tgt := 104) d_Model_happened_100 (by decide) ?_
      refine zr_less (L' := [some (.ref 33), some (.int x1), none, none, none]) ⟨rfl, ⟨rfl, trivial⟩⟩ ?_
      exact s_Model_happened_L104    hJ
set_option maxHeartbeats 400000 in
theorem s_Model_happened_L78 {g : zk_T} {K : Int64 → zm → Prop} {x1 : Int32} {t1 : Int64} {m : zm} (hJ : j_Model_happened_L78   K x1 t1 m) : zq_V (zk_g g) ("RiichiTableModel", prog_9_method_27_code, 5, (some .long), false, zq_rm 1 0 0) 0 0 78 [some (.ref 33), some (.int x1), none, none, none] [.ref 33, .long t1] (zm_hp m) (zm_QL K) := by
  unfold j_Model_happened_L78 at hJ
  refine zq_iconst (v := 0) d_Model_happened_78 zk_i0 ?_
  refine zr_less (L' := [some (.ref 33), some (.int x1), none, none, none]) ⟨rfl, ⟨rfl, trivial⟩⟩ ?_
  exact s_Model_happened_L79    hJ
set_option maxHeartbeats 400000 in
theorem s_Model_happened_L41 {g : zk_T} {K : Int64 → zm → Prop} {x1 : Int32} {t0 : Int32} {t2 : Int64} {m : zm} (hJ : j_Model_happened_L41   K x1 t0 t2 m) : zq_V (zk_g g) ("RiichiTableModel", prog_9_method_27_code, 5, (some .long), false, zq_rm 1 0 0) 0 0 41 [some (.ref 33), some (.int x1), none, none, none] [.int t0, .ref 33, .long t2] (zm_hp m) (zm_QL K) := by
  unfold j_Model_happened_L41 at hJ
  refine zq_iconst (v := 1) d_Model_happened_41 zk_i1 ?_
  refine zr_cvL (q := 33) (as := [.int t0, .int 1]) (st := [.long t2]) d_Model_happened_42 cc_Model_187 cv_Model_bit zs_Model (s_Model_bit  hJ) rfl ⟨Nat.le_of_ble_eq_true rfl, Nat.le_of_ble_eq_true rfl⟩ (Nat.le_of_ble_eq_true rfl) ⟨Nat.le_refl _, Nat.le_refl _⟩ rfl (fun r5 m4 hJ => ?_)
  refine zq_lor d_Model_happened_45 ?_
  refine zq_aload_n d_Model_happened_46 rfl rfl ?_
  refine zq_aload_n d_Model_happened_47 rfl rfl ?_
  refine zm_getR fg_Model_37 d_Model_happened_48 zs_Model rfl ?_
  refine zq_iload_n d_Model_happened_51 rfl rfl ?_
  obtain ⟨hb, hJ⟩ := hJ
  refine zm_zld d_Model_happened_52 (rfl : zm_sh[43]? = some (.inl (2, 4, .inl (fun _ => 0)))) hb ?_
  refine zq_iconst (v := 2) d_Model_happened_53 zk_i2 ?_
  refine zr_cvL (q := 33) (as := [.int (m4.1 43 (Int32.toNatClampNeg x1)), .int 2]) (st := [.long (t2 ||| r5)]) d_Model_happened_54 cc_Model_187 cv_Model_bit zs_Model (s_Model_bit  hJ) rfl ⟨Nat.le_of_ble_eq_true rfl, Nat.le_of_ble_eq_true rfl⟩ (Nat.le_of_ble_eq_true rfl) ⟨Nat.le_refl _, Nat.le_refl _⟩ rfl (fun r7 m6 hJ => ?_)
  refine zq_lor d_Model_happened_57 ?_
  refine zq_aload_n d_Model_happened_58 rfl rfl ?_
  refine zq_aload_n d_Model_happened_59 rfl rfl ?_
  refine zm_getI fg_Model_191 d_Model_happened_60 zs_Model rfl ?_
  refine zq_if_eq (tgt := 78) d_Model_happened_63 (by decide) (fun c => ?_) (fun c => ?_)
  · have hJ := hJ.1 c
    refine zr_less (L' := [some (.ref 33), some (.int x1), none, none, none]) ⟨rfl, ⟨rfl, trivial⟩⟩ ?_
    exact s_Model_happened_L78    hJ
  · have hJ := hJ.2 c
    refine zq_aload_n d_Model_happened_66 rfl rfl ?_
    refine zq_iload_n d_Model_happened_67 rfl rfl ?_
    refine zr_cvI (q := 33) (as := [.int x1]) (st := [.ref 33, .long ((t2 ||| r5) ||| r7)]) d_Model_happened_68 cc_Model_194 cv_Model_isClosed zs_Model (s_Model_isClosed  hJ) rfl ⟨Nat.le_of_ble_eq_true rfl, Nat.le_of_ble_eq_true rfl⟩ (Nat.le_of_ble_eq_true rfl) ⟨Nat.le_refl _, Nat.le_refl _⟩ rfl (fun r9 m8 hJ => ?_)
    refine zq_if_eq (tgt := 78) d_Model_happened_71 (by decide) (fun c => ?_) (fun c => ?_)
    · have hJ := hJ.1 c
      refine zr_less (L' := [some (.ref 33), some (.int x1), none, none, none]) ⟨rfl, ⟨rfl, trivial⟩⟩ ?_
      exact s_Model_happened_L78    hJ
    · have hJ := hJ.2 c
      refine zq_iconst (v := 1) d_Model_happened_74 zk_i1 ?_
      refine zq_goto (tgt := 79) d_Model_happened_75 (by decide) ?_
      refine zr_less (L' := [some (.ref 33), some (.int x1), none, none, none]) ⟨rfl, ⟨rfl, trivial⟩⟩ ?_
      exact s_Model_happened_L79    hJ
set_option maxHeartbeats 400000 in
theorem s_Model_happened_L21 {g : zk_T} {K : Int64 → zm → Prop} {x1 : Int32} {t0 : Int32} {m : zm} (hJ : j_Model_happened_L21   K x1 t0 m) : zq_V (zk_g g) ("RiichiTableModel", prog_9_method_27_code, 5, (some .long), false, zq_rm 1 0 0) 0 0 21 [some (.ref 33), some (.int x1), none, none, none] [.int t0, .ref 33] (zm_hp m) (zm_QL K) := by
  unfold j_Model_happened_L21 at hJ
  refine zq_iconst (v := 0) d_Model_happened_21 zk_i0 ?_
  refine zr_cvL (q := 33) (as := [.int t0, .int 0]) (st := []) d_Model_happened_22 cc_Model_187 cv_Model_bit zs_Model (s_Model_bit  hJ) rfl ⟨Nat.le_of_ble_eq_true rfl, Nat.le_of_ble_eq_true rfl⟩ (Nat.le_of_ble_eq_true rfl) ⟨Nat.le_refl _, Nat.le_refl _⟩ rfl (fun r3 m2 hJ => ?_)
  refine zq_aload_n d_Model_happened_25 rfl rfl ?_
  refine zq_aload_n d_Model_happened_26 rfl rfl ?_
  refine zm_getR fg_Model_34 d_Model_happened_27 zs_Model rfl ?_
  refine zq_iload_n d_Model_happened_30 rfl rfl ?_
  obtain ⟨hb, hJ⟩ := hJ
  refine zm_ald d_Model_happened_31 (rfl : zm_sh[42]? = some (.inl (0, 4, .inl (fun _ => 0)))) hb ?_
  refine zq_iconst (v := 2) d_Model_happened_32 zk_i2 ?_
  refine zq_icmp_ne (tgt := 40) d_Model_happened_33 (by decide) (fun c => ?_) (fun c => ?_)
  · have hJ := hJ.1 c
    refine zq_iconst (v := 0) d_Model_happened_40 zk_i0 ?_
    refine zr_less (L' := [some (.ref 33), some (.int x1), none, none, none]) ⟨rfl, ⟨rfl, trivial⟩⟩ ?_
    exact s_Model_happened_L41    hJ
  · have hJ := hJ.2 c
    refine zq_iconst (v := 1) d_Model_happened_36 zk_i1 ?_
    refine zq_goto (tgt := 41) d_Model_happened_37 (by decide) ?_
    refine zr_less (L' := [some (.ref 33), some (.int x1), none, none, none]) ⟨rfl, ⟨rfl, trivial⟩⟩ ?_
    exact s_Model_happened_L41    hJ
set_option maxHeartbeats 400000 in
theorem s_Model_happened {g : zk_T} {K : Int64 → zm → Prop} {m : zm} (hJ : j_Model_happened  m K) : zq_Mt (zk_g g) y_Model_happened 1 0 0 [.ref 33] (zm_hp m) (zm_QL K) := by
  unfold j_Model_happened at hJ
  refine zq_meth (ini := false) rfl (fun h => by cases h) (Nat.le_of_ble_eq_true rfl) ?_
  refine zr_L (F := ("RiichiTableModel", prog_9_method_27_code, 5, (some .long), false, zq_rm 1 0 0)) (L' := [some (.ref 33), none, none, none, none]) rfl ?_
  refine zq_aload_n d_Model_happened_0 rfl rfl ?_
  refine zm_getI fg_Model_184 d_Model_happened_1 zs_Model rfl ?_
  refine zr_topi (fun y1 hy1 => ?_)
  have hJ := hJ y1 hy1
  refine zr_istore_n (L' := [some (.ref 33), some (.int y1), none, none, none]) d_Model_happened_4 rfl (Nat.le_of_ble_eq_true rfl) rfl ?_
  refine zq_aload_n d_Model_happened_5 rfl rfl ?_
  refine zq_aload_n d_Model_happened_6 rfl rfl ?_
  refine zm_getR fg_Model_34 d_Model_happened_7 zs_Model rfl ?_
  refine zq_iload_n d_Model_happened_10 rfl rfl ?_
  obtain ⟨hb, hJ⟩ := hJ
  refine zm_ald d_Model_happened_11 (rfl : zm_sh[42]? = some (.inl (0, 4, .inl (fun _ => 0)))) hb ?_
  refine zq_iconst (v := 1) d_Model_happened_12 zk_i1 ?_
  refine zq_icmp_ne (tgt := 20) d_Model_happened_13 (by decide) (fun c => ?_) (fun c => ?_)
  · have hJ := hJ.1 c
    refine zq_iconst (v := 0) d_Model_happened_20 zk_i0 ?_
    refine zr_less (L' := [some (.ref 33), some (.int y1), none, none, none]) ⟨rfl, ⟨rfl, trivial⟩⟩ ?_
    exact s_Model_happened_L21    hJ
  · have hJ := hJ.2 c
    refine zq_iconst (v := 1) d_Model_happened_16 zk_i1 ?_
    refine zq_goto (tgt := 21) d_Model_happened_17 (by decide) ?_
    refine zr_less (L' := [some (.ref 33), some (.int y1), none, none, none]) ⟨rfl, ⟨rfl, trivial⟩⟩ ?_
    exact s_Model_happened_L21    hJ
set_option maxHeartbeats 400000 in
theorem s_Model_suits_L31 {g : zk_T} {R4 : Int32 → Int32 → zm → Prop} {K : Int32 → zm → Prop} (hR4 : ∀ {x1 : Int32} {x2 : Int32} {m : zm}, R4 x1 x2 m → zq_V (zk_g g) ("RiichiTableModel", prog_9_method_28_code, 3, (some .int), false, zq_rm 0 0 0) 0 0 4 [some (.ref 33), some (.int x1), some (.int x2)] [] (zm_hp m) (zm_QI K)) {x2 : Int32} {t0 : Int32} {m : zm} (hJ : j_Model_suits_L31  R4 K x2 t0 m) : zq_V (zk_g g) ("RiichiTableModel", prog_9_method_28_code, 3, (some .int), false, zq_rm 0 0 0) 0 0 31 [some (.ref 33), none, some (.int x2)] [.int t0] (zm_hp m) (zm_QI K) := by
  unfold j_Model_suits_L31 at hJ
  refine zr_istore_n (L' := [some (.ref 33), some (.int t0), some (.int x2)]) d_Model_suits_31 rfl (Nat.le_of_ble_eq_true rfl) rfl ?_
  refine zr_iinc (d' := 1) d_Model_suits_32 zk_i1 rfl (Nat.le_of_ble_eq_true rfl) (fun y1 hy1 => ?_)
  have hJ := hJ y1 hy1
  refine zr_L (L' := [some (.ref 33), some (.int t0), some (.int y1)]) rfl ?_
  refine zq_goto (tgt := 4) d_Model_suits_35 (by decide) ?_
  refine zr_less (L' := [some (.ref 33), some (.int t0), some (.int y1)]) ⟨rfl, ⟨rfl, ⟨rfl, trivial⟩⟩⟩ ?_
  exact hR4  hJ
set_option maxHeartbeats 400000 in
theorem s_Model_suits_L4 {g : zk_T} {K : Int32 → zm → Prop} : ∀ (n : Nat) {x1 : Int32} {x2 : Int32} {m : zm}, j_Model_suits_L4   K n x1 x2 m → zq_V (zk_g g) ("RiichiTableModel", prog_9_method_28_code, 3, (some .int), false, zq_rm 0 0 0) 0 0 4 [some (.ref 33), some (.int x1), some (.int x2)] [] (zm_hp m) (zm_QI K) := by
  intro n
  induction n with
  | zero =>
    intro x1 x2 m hJ
    exact False.elim hJ
  | succ n ih =>
    intro x1 x2 m hJ
    rw [j_Model_suits_L4] at hJ
    refine zq_iload_n d_Model_suits_4 rfl rfl ?_
    refine zq_bipush (v := 27) d_Model_suits_5 zk_b27 ?_
    refine zq_icmp_ge (tgt := 38) d_Model_suits_7 (by decide) (fun c => ?_) (fun c => ?_)
    · have hJ := hJ.1 c
      refine zq_iload_n d_Model_suits_38 rfl rfl ?_
      exact zq_iret d_Model_suits_39 rfl rfl (Nat.le_refl _) (Nat.le_refl _) ⟨_, _, rfl, rfl, hJ⟩
    · have hJ := hJ.2 c
      refine zq_aload_n d_Model_suits_10 rfl rfl ?_
      refine zm_getR fg_Model_63 d_Model_suits_11 zs_Model rfl ?_
      refine zq_iload_n d_Model_suits_14 rfl rfl ?_
      obtain ⟨hb, hJ⟩ := hJ
      refine zm_ald d_Model_suits_15 (rfl : zm_sh[51]? = some (.inl (0, 34, .inl (fun _ => 0)))) hb ?_
      refine zq_if_le (tgt := 30) d_Model_suits_16 (by decide) (fun c => ?_) (fun c => ?_)
      · have hJ := hJ.1 c
        refine zq_iload_n d_Model_suits_30 rfl rfl ?_
        refine zr_less (L' := [some (.ref 33), none, some (.int x2)]) ⟨rfl, ⟨rfl, trivial⟩⟩ ?_
        exact s_Model_suits_L31  ih  hJ
      · have hJ := hJ.2 c
        refine zq_iload_n d_Model_suits_19 rfl rfl ?_
        refine zq_iconst (v := 1) d_Model_suits_20 zk_i1 ?_
        refine zq_iload_n d_Model_suits_21 rfl rfl ?_
        refine zq_bipush (v := 9) d_Model_suits_22 zk_b9 ?_
        refine zq_idiv d_Model_suits_24 (by decide) ?_
        refine zq_ishl d_Model_suits_25 ?_
        refine zq_ior d_Model_suits_26 ?_
        refine zq_goto (tgt := 31) d_Model_suits_27 (by decide) ?_
        refine zr_less (L' := [some (.ref 33), none, some (.int x2)]) ⟨rfl, ⟨rfl, trivial⟩⟩ ?_
        exact s_Model_suits_L31  ih  hJ
set_option maxHeartbeats 400000 in
theorem s_Model_suits {g : zk_T} {K : Int32 → zm → Prop} {m : zm} (hJ : j_Model_suits  m K) : zq_Mt (zk_g g) y_Model_suits 0 0 0 [.ref 33] (zm_hp m) (zm_QI K) := by
  unfold j_Model_suits at hJ
  refine zq_meth (ini := false) rfl (fun h => by cases h) (Nat.le_of_ble_eq_true rfl) ?_
  refine zr_L (F := ("RiichiTableModel", prog_9_method_28_code, 3, (some .int), false, zq_rm 0 0 0)) (L' := [some (.ref 33), none, none]) rfl ?_
  refine zq_iconst (v := 0) d_Model_suits_0 zk_i0 ?_
  refine zr_istore_n (L' := [some (.ref 33), some (.int 0), none]) d_Model_suits_1 rfl (Nat.le_of_ble_eq_true rfl) rfl ?_
  refine zq_iconst (v := 0) d_Model_suits_2 zk_i0 ?_
  refine zr_istore_n (L' := [some (.ref 33), some (.int 0), some (.int 0)]) d_Model_suits_3 rfl (Nat.le_of_ble_eq_true rfl) rfl ?_
  refine zr_less (L' := [some (.ref 33), some (.int 0), some (.int 0)]) ⟨rfl, ⟨rfl, ⟨rfl, trivial⟩⟩⟩ ?_
  obtain ⟨n4, hJ⟩ := hJ
  exact s_Model_suits_L4   n4  hJ
set_option maxHeartbeats 400000 in
theorem s_Model_nineGates_L108 {g : zk_T} {R67 : Int32 → Int32 → Int32 → zm → Prop} {K : Int32 → zm → Prop} (hR67 : ∀ {x1 : Int32} {x2 : Int32} {x3 : Int32} {m : zm}, R67 x1 x2 x3 m → zq_V (zk_g g) ("RiichiTableModel", prog_9_method_30_code, 4, (some .boolean), false, zq_rm 0 0 0) 0 0 67 [some (.ref 33), some (.int x1), some (.int x2), some (.int x3)] [] (zm_hp m) (zm_QI K)) {x2 : Int32} {x3 : Int32} {t0 : Int32} {m : zm} (hJ : j_Model_nineGates_L108  R67 K x2 x3 t0 m) : zq_V (zk_g g) ("RiichiTableModel", prog_9_method_30_code, 4, (some .boolean), false, zq_rm 0 0 0) 0 0 108 [some (.ref 33), none, some (.int x2), some (.int x3)] [.int t0] (zm_hp m) (zm_QI K) := by
  unfold j_Model_nineGates_L108 at hJ
  refine zr_istore_n (L' := [some (.ref 33), some (.int t0), some (.int x2), some (.int x3)]) d_Model_nineGates_108 rfl (Nat.le_of_ble_eq_true rfl) rfl ?_
  refine zr_iinc (d' := 1) d_Model_nineGates_109 zk_i1 rfl (Nat.le_of_ble_eq_true rfl) (fun y1 hy1 => ?_)
  have hJ := hJ y1 hy1
  refine zr_L (L' := [some (.ref 33), some (.int t0), some (.int x2), some (.int y1)]) rfl ?_
  refine zq_goto (tgt := 67) d_Model_nineGates_112 (by decide) ?_
  refine zr_less (L' := [some (.ref 33), some (.int t0), some (.int x2), some (.int y1)]) ⟨rfl, ⟨rfl, ⟨rfl, ⟨rfl, trivial⟩⟩⟩⟩ ?_
  exact hR67  hJ
set_option maxHeartbeats 400000 in
theorem s_Model_nineGates_L107 {g : zk_T} {R67 : Int32 → Int32 → Int32 → zm → Prop} {K : Int32 → zm → Prop} (hR67 : ∀ {x1 : Int32} {x2 : Int32} {x3 : Int32} {m : zm}, R67 x1 x2 x3 m → zq_V (zk_g g) ("RiichiTableModel", prog_9_method_30_code, 4, (some .boolean), false, zq_rm 0 0 0) 0 0 67 [some (.ref 33), some (.int x1), some (.int x2), some (.int x3)] [] (zm_hp m) (zm_QI K)) {x2 : Int32} {x3 : Int32} {m : zm} (hJ : j_Model_nineGates_L107  R67 K x2 x3 m) : zq_V (zk_g g) ("RiichiTableModel", prog_9_method_30_code, 4, (some .boolean), false, zq_rm 0 0 0) 0 0 107 [some (.ref 33), none, some (.int x2), some (.int x3)] [] (zm_hp m) (zm_QI K) := by
  unfold j_Model_nineGates_L107 at hJ
  refine zq_iconst (v := 0) d_Model_nineGates_107 zk_i0 ?_
  refine zr_less (L' := [some (.ref 33), none, some (.int x2), some (.int x3)]) ⟨rfl, ⟨rfl, ⟨rfl, trivial⟩⟩⟩ ?_
  exact s_Model_nineGates_L108  hR67  hJ
set_option maxHeartbeats 400000 in
theorem s_Model_nineGates_L100 {g : zk_T} {R67 : Int32 → Int32 → Int32 → zm → Prop} {K : Int32 → zm → Prop} (hR67 : ∀ {x1 : Int32} {x2 : Int32} {x3 : Int32} {m : zm}, R67 x1 x2 x3 m → zq_V (zk_g g) ("RiichiTableModel", prog_9_method_30_code, 4, (some .boolean), false, zq_rm 0 0 0) 0 0 67 [some (.ref 33), some (.int x1), some (.int x2), some (.int x3)] [] (zm_hp m) (zm_QI K)) {x2 : Int32} {x3 : Int32} {t0 : Int32} {t1 : Int32} {m : zm} (hJ : j_Model_nineGates_L100  R67 K x2 x3 t0 t1 m) : zq_V (zk_g g) ("RiichiTableModel", prog_9_method_30_code, 4, (some .boolean), false, zq_rm 0 0 0) 0 0 100 [some (.ref 33), none, some (.int x2), some (.int x3)] [.int t0, .int t1] (zm_hp m) (zm_QI K) := by
  unfold j_Model_nineGates_L100 at hJ
  refine zq_icmp_lt (tgt := 107) d_Model_nineGates_100 (by decide) (fun c => ?_) (fun c => ?_)
  · have hJ := hJ.1 c
    refine zr_less (L' := [some (.ref 33), none, some (.int x2), some (.int x3)]) ⟨rfl, ⟨rfl, ⟨rfl, trivial⟩⟩⟩ ?_
    exact s_Model_nineGates_L107  hR67  hJ
  · have hJ := hJ.2 c
    refine zq_iconst (v := 1) d_Model_nineGates_103 zk_i1 ?_
    refine zq_goto (tgt := 108) d_Model_nineGates_104 (by decide) ?_
    refine zr_less (L' := [some (.ref 33), none, some (.int x2), some (.int x3)]) ⟨rfl, ⟨rfl, ⟨rfl, trivial⟩⟩⟩ ?_
    exact s_Model_nineGates_L108  hR67  hJ
set_option maxHeartbeats 400000 in
theorem s_Model_nineGates_L95 {g : zk_T} {R67 : Int32 → Int32 → Int32 → zm → Prop} {K : Int32 → zm → Prop} (hR67 : ∀ {x1 : Int32} {x2 : Int32} {x3 : Int32} {m : zm}, R67 x1 x2 x3 m → zq_V (zk_g g) ("RiichiTableModel", prog_9_method_30_code, 4, (some .boolean), false, zq_rm 0 0 0) 0 0 67 [some (.ref 33), some (.int x1), some (.int x2), some (.int x3)] [] (zm_hp m) (zm_QI K)) {x2 : Int32} {x3 : Int32} {t0 : Int32} {m : zm} (hJ : j_Model_nineGates_L95  R67 K x2 x3 t0 m) : zq_V (zk_g g) ("RiichiTableModel", prog_9_method_30_code, 4, (some .boolean), false, zq_rm 0 0 0) 0 0 95 [some (.ref 33), none, some (.int x2), some (.int x3)] [.int t0] (zm_hp m) (zm_QI K) := by
  unfold j_Model_nineGates_L95 at hJ
  refine zq_iconst (v := 3) d_Model_nineGates_95 zk_i3 ?_
  refine zq_goto (tgt := 100) d_Model_nineGates_96 (by decide) ?_
  refine zr_less (L' := [some (.ref 33), none, some (.int x2), some (.int x3)]) ⟨rfl, ⟨rfl, ⟨rfl, trivial⟩⟩⟩ ?_
  exact s_Model_nineGates_L100  hR67  hJ
set_option maxHeartbeats 400000 in
theorem s_Model_nineGates_L67 {g : zk_T} {K : Int32 → zm → Prop} : ∀ (n : Nat) {x1 : Int32} {x2 : Int32} {x3 : Int32} {m : zm}, j_Model_nineGates_L67   K n x1 x2 x3 m → zq_V (zk_g g) ("RiichiTableModel", prog_9_method_30_code, 4, (some .boolean), false, zq_rm 0 0 0) 0 0 67 [some (.ref 33), some (.int x1), some (.int x2), some (.int x3)] [] (zm_hp m) (zm_QI K) := by
  intro n
  induction n with
  | zero =>
    intro x1 x2 x3 m hJ
    exact False.elim hJ
  | succ n ih =>
    intro x1 x2 x3 m hJ
    rw [j_Model_nineGates_L67] at hJ
    refine zq_iload_n d_Model_nineGates_67 rfl rfl ?_
    refine zq_bipush (v := 9) d_Model_nineGates_68 zk_b9 ?_
    refine zq_icmp_ge (tgt := 115) d_Model_nineGates_70 (by decide) (fun c => ?_) (fun c => ?_)
    · have hJ := hJ.1 c
      refine zq_iload_n d_Model_nineGates_115 rfl rfl ?_
      exact zq_iret d_Model_nineGates_116 rfl hJ.1.nar (Nat.le_refl _) (Nat.le_refl _) ⟨_, _, rfl, rfl, hJ.2⟩
    · have hJ := hJ.2 c
      refine zq_iload_n d_Model_nineGates_73 rfl rfl ?_
      refine zq_if_eq (tgt := 107) d_Model_nineGates_74 (by decide) (fun c => ?_) (fun c => ?_)
      · have hJ := hJ.1 c
        refine zr_less (L' := [some (.ref 33), none, some (.int x2), some (.int x3)]) ⟨rfl, ⟨rfl, ⟨rfl, trivial⟩⟩⟩ ?_
        exact s_Model_nineGates_L107  ih  hJ
      · have hJ := hJ.2 c
        refine zq_aload_n d_Model_nineGates_77 rfl rfl ?_
        refine zm_getR fg_Model_63 d_Model_nineGates_78 zs_Model rfl ?_
        refine zq_iload_n d_Model_nineGates_81 rfl rfl ?_
        refine zq_iload_n d_Model_nineGates_82 rfl rfl ?_
        refine zq_iadd d_Model_nineGates_83 ?_
        obtain ⟨hb, hJ⟩ := hJ
        refine zm_ald d_Model_nineGates_84 (rfl : zm_sh[51]? = some (.inl (0, 34, .inl (fun _ => 0)))) hb ?_
        refine zq_iload_n d_Model_nineGates_85 rfl rfl ?_
        refine zq_if_eq (tgt := 95) d_Model_nineGates_86 (by decide) (fun c => ?_) (fun c => ?_)
        · have hJ := hJ.1 c
          refine zr_less (L' := [some (.ref 33), none, some (.int x2), some (.int x3)]) ⟨rfl, ⟨rfl, ⟨rfl, trivial⟩⟩⟩ ?_
          exact s_Model_nineGates_L95  ih  hJ
        · have hJ := hJ.2 c
          refine zq_iload_n d_Model_nineGates_89 rfl rfl ?_
          refine zq_bipush (v := 8) d_Model_nineGates_90 zk_b8 ?_
          refine zq_icmp_ne (tgt := 99) d_Model_nineGates_92 (by decide) (fun c => ?_) (fun c => ?_)
          · have hJ := hJ.1 c
            refine zq_iconst (v := 1) d_Model_nineGates_99 zk_i1 ?_
            refine zr_less (L' := [some (.ref 33), none, some (.int x2), some (.int x3)]) ⟨rfl, ⟨rfl, ⟨rfl, trivial⟩⟩⟩ ?_
            exact s_Model_nineGates_L100  ih  hJ
          · have hJ := hJ.2 c
            refine zr_less (L' := [some (.ref 33), none, some (.int x2), some (.int x3)]) ⟨rfl, ⟨rfl, ⟨rfl, trivial⟩⟩⟩ ?_
            exact s_Model_nineGates_L95  ih  hJ
set_option maxHeartbeats 400000 in
theorem s_Model_nineGates_L64 {g : zk_T} {K : Int32 → zm → Prop} {x1 : Int32} {t0 : Int32} {m : zm} (hJ : j_Model_nineGates_L64   K x1 t0 m) : zq_V (zk_g g) ("RiichiTableModel", prog_9_method_30_code, 4, (some .boolean), false, zq_rm 0 0 0) 0 0 64 [some (.ref 33), some (.int x1), none, none] [.int t0] (zm_hp m) (zm_QI K) := by
  unfold j_Model_nineGates_L64 at hJ
  refine zr_istore_n (L' := [some (.ref 33), some (.int x1), some (.int t0), none]) d_Model_nineGates_64 rfl (Nat.le_of_ble_eq_true rfl) rfl ?_
  refine zq_iconst (v := 0) d_Model_nineGates_65 zk_i0 ?_
  refine zr_istore_n (L' := [some (.ref 33), some (.int x1), some (.int t0), some (.int 0)]) d_Model_nineGates_66 rfl (Nat.le_of_ble_eq_true rfl) rfl ?_
  refine zr_less (L' := [some (.ref 33), some (.int x1), some (.int t0), some (.int 0)]) ⟨rfl, ⟨rfl, ⟨rfl, ⟨rfl, trivial⟩⟩⟩⟩ ?_
  obtain ⟨n67, hJ⟩ := hJ
  exact s_Model_nineGates_L67   n67  hJ
set_option maxHeartbeats 400000 in
theorem s_Model_nineGates_L17 {g : zk_T} {K : Int32 → zm → Prop} {t0 : Int32} {m : zm} (hJ : j_Model_nineGates_L17   K t0 m) : zq_V (zk_g g) ("RiichiTableModel", prog_9_method_30_code, 4, (some .boolean), false, zq_rm 0 0 0) 0 0 17 [some (.ref 33), none, none, none] [.int t0] (zm_hp m) (zm_QI K) := by
  unfold j_Model_nineGates_L17 at hJ
  refine zr_istore_n (L' := [some (.ref 33), some (.int t0), none, none]) d_Model_nineGates_17 rfl (Nat.le_of_ble_eq_true rfl) rfl ?_
  refine zq_aload_n d_Model_nineGates_18 rfl rfl ?_
  refine zm_getR fg_Model_63 d_Model_nineGates_19 zs_Model rfl ?_
  refine zq_iconst (v := 0) d_Model_nineGates_22 zk_i0 ?_
  refine zm_ald d_Model_nineGates_23 (rfl : zm_sh[51]? = some (.inl (0, 34, .inl (fun _ => 0)))) (show vp_in 0 34 by unfold vp_in; decide) ?_
  refine zq_aload_n d_Model_nineGates_24 rfl rfl ?_
  refine zm_getR fg_Model_63 d_Model_nineGates_25 zs_Model rfl ?_
  refine zq_bipush (v := 8) d_Model_nineGates_28 zk_b8 ?_
  refine zm_ald d_Model_nineGates_30 (rfl : zm_sh[51]? = some (.inl (0, 34, .inl (fun _ => 0)))) (show vp_in 8 34 by unfold vp_in; decide) ?_
  refine zq_iadd d_Model_nineGates_31 ?_
  refine zq_if_le (tgt := 39) d_Model_nineGates_32 (by decide) (fun c => ?_) (fun c => ?_)
  · have hJ := hJ.1 c
    refine zq_aload_n d_Model_nineGates_39 rfl rfl ?_
    refine zm_getR fg_Model_63 d_Model_nineGates_40 zs_Model rfl ?_
    refine zq_bipush (v := 9) d_Model_nineGates_43 zk_b9 ?_
    refine zm_ald d_Model_nineGates_45 (rfl : zm_sh[51]? = some (.inl (0, 34, .inl (fun _ => 0)))) (show vp_in 9 34 by unfold vp_in; decide) ?_
    refine zq_aload_n d_Model_nineGates_46 rfl rfl ?_
    refine zm_getR fg_Model_63 d_Model_nineGates_47 zs_Model rfl ?_
    refine zq_bipush (v := 17) d_Model_nineGates_50 zk_b17 ?_
    refine zm_ald d_Model_nineGates_52 (rfl : zm_sh[51]? = some (.inl (0, 34, .inl (fun _ => 0)))) (show vp_in 17 34 by unfold vp_in; decide) ?_
    refine zq_iadd d_Model_nineGates_53 ?_
    refine zq_if_le (tgt := 62) d_Model_nineGates_54 (by decide) (fun c => ?_) (fun c => ?_)
    · have hJ := hJ.1 c
      refine zq_bipush (v := 18) d_Model_nineGates_62 zk_b18 ?_
      refine zr_less (L' := [some (.ref 33), some (.int t0), none, none]) ⟨rfl, ⟨rfl, trivial⟩⟩ ?_
      exact s_Model_nineGates_L64    hJ
    · have hJ := hJ.2 c
      refine zq_bipush (v := 9) d_Model_nineGates_57 zk_b9 ?_
      refine zq_goto (tgt := 64) d_Model_nineGates_59 (by decide) ?_
      refine zr_less (L' := [some (.ref 33), some (.int t0), none, none]) ⟨rfl, ⟨rfl, trivial⟩⟩ ?_
      exact s_Model_nineGates_L64    hJ
  · have hJ := hJ.2 c
    refine zq_iconst (v := 0) d_Model_nineGates_35 zk_i0 ?_
    refine zq_goto (tgt := 64) d_Model_nineGates_36 (by decide) ?_
    refine zr_less (L' := [some (.ref 33), some (.int t0), none, none]) ⟨rfl, ⟨rfl, trivial⟩⟩ ?_
    exact s_Model_nineGates_L64    hJ
set_option maxHeartbeats 400000 in
theorem s_Model_nineGates {g : zk_T} {K : Int32 → zm → Prop} {m : zm} (hJ : j_Model_nineGates  m K) : zq_Mt (zk_g g) y_Model_nineGates 0 0 0 [.ref 33] (zm_hp m) (zm_QI K) := by
  unfold j_Model_nineGates at hJ
  refine zq_meth (ini := false) rfl (fun h => by cases h) (Nat.le_of_ble_eq_true rfl) ?_
  refine zr_L (F := ("RiichiTableModel", prog_9_method_30_code, 4, (some .boolean), false, zq_rm 0 0 0)) (L' := [some (.ref 33), none, none, none]) rfl ?_
  refine zq_aload_n d_Model_nineGates_0 rfl rfl ?_
  refine zm_getR fg_Model_19 d_Model_nineGates_1 zs_Model rfl ?_
  refine zq_aload_n d_Model_nineGates_4 rfl rfl ?_
  refine zm_getI fg_Model_184 d_Model_nineGates_5 zs_Model rfl ?_
  obtain ⟨hb, hJ⟩ := hJ
  refine zm_ald d_Model_nineGates_8 (rfl : zm_sh[37]? = some (.inl (0, 4, .inl (fun _ => 0)))) hb ?_
  refine zq_if_ne (tgt := 16) d_Model_nineGates_9 (by decide) (fun c => ?_) (fun c => ?_)
  · have hJ := hJ.1 c
    refine zq_iconst (v := 0) d_Model_nineGates_16 zk_i0 ?_
    refine zr_less (L' := [some (.ref 33), none, none, none]) ⟨rfl, trivial⟩ ?_
    exact s_Model_nineGates_L17    hJ
  · have hJ := hJ.2 c
    refine zq_iconst (v := 1) d_Model_nineGates_12 zk_i1 ?_
    refine zq_goto (tgt := 17) d_Model_nineGates_13 (by decide) ?_
    refine zr_less (L' := [some (.ref 33), none, none, none]) ⟨rfl, trivial⟩ ?_
    exact s_Model_nineGates_L17    hJ
