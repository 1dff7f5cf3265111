set_option maxHeartbeats 400000 in
theorem s_Model_ofTriplets_L135 {g : zk_T} {R12 : Int32 → Int32 → Int32 → Int32 → Int32 → zm → Prop} {K : Int64 → zm → Prop} (hR12 : ∀ {x1 : Int32} {x2 : Int32} {x3 : Int32} {x4 : Int32} {x5 : Int32} {m : zm}, R12 x1 x2 x3 x4 x5 m → zq_V (zk_g g) ("RiichiTableModel", prog_9_method_39_code, 8, (some .long), false, zq_rm 1 0 0) 0 0 12 [some (.ref 33), some (.int x1), some (.int x2), some (.int x3), some (.int x4), some (.int x5), none, none] [] (zm_hp m) (zm_QL K)) {x1 : Int32} {x2 : Int32} {x3 : Int32} {x5 : Int32} {t0 : Int32} {t1 : Int32} {m : zm} (hJ : j_Model_ofTriplets_L135  R12 K x1 x2 x3 x5 t0 t1 m) : zq_V (zk_g g) ("RiichiTableModel", prog_9_method_39_code, 8, (some .long), false, zq_rm 1 0 0) 0 0 135 [some (.ref 33), some (.int x1), some (.int x2), some (.int x3), none, some (.int x5), none, none] [.int t0, .int t1] (zm_hp m) (zm_QL K) := by
  unfold j_Model_ofTriplets_L135 at hJ
  refine zq_iadd d_Model_ofTriplets_135 ?_
  refine zr_topi (fun y30 hy30 => ?_)
  have hJ := hJ y30 hy30
  refine zr_istore (L' := [some (.ref 33), some (.int x1), some (.int x2), some (.int x3), some (.int y30), some (.int x5), none, none]) d_Model_ofTriplets_136 (Nat.le_of_ble_eq_true rfl) rfl ?_
  refine zr_iinc (d' := 1) d_Model_ofTriplets_138 zk_i1 rfl (Nat.le_of_ble_eq_true rfl) (fun y31 hy31 => ?_)
  have hJ := hJ y31 hy31
  refine zr_L (L' := [some (.ref 33), some (.int x1), some (.int x2), some (.int x3), some (.int y30), some (.int y31), none, none]) rfl ?_
  refine zq_goto (tgt := 12) d_Model_ofTriplets_141 (by decide) ?_
  refine zr_less (L' := [some (.ref 33), some (.int x1), some (.int x2), some (.int x3), some (.int y30), some (.int y31), none, none]) ⟨rfl, ⟨rfl, ⟨rfl, ⟨rfl, ⟨rfl, ⟨rfl, trivial⟩⟩⟩⟩⟩⟩ ?_
  exact hR12  hJ
set_option maxHeartbeats 400000 in
theorem s_Model_ofTriplets_L134 {g : zk_T} {R12 : Int32 → Int32 → Int32 → Int32 → Int32 → zm → Prop} {K : Int64 → zm → Prop} (hR12 : ∀ {x1 : Int32} {x2 : Int32} {x3 : Int32} {x4 : Int32} {x5 : Int32} {m : zm}, R12 x1 x2 x3 x4 x5 m → zq_V (zk_g g) ("RiichiTableModel", prog_9_method_39_code, 8, (some .long), false, zq_rm 1 0 0) 0 0 12 [some (.ref 33), some (.int x1), some (.int x2), some (.int x3), some (.int x4), some (.int x5), none, none] [] (zm_hp m) (zm_QL K)) {x1 : Int32} {x2 : Int32} {x3 : Int32} {x5 : Int32} {t0 : Int32} {m : zm} (hJ : j_Model_ofTriplets_L134  R12 K x1 x2 x3 x5 t0 m) : zq_V (zk_g g) ("RiichiTableModel", prog_9_method_39_code, 8, (some .long), false, zq_rm 1 0 0) 0 0 134 [some (.ref 33), some (.int x1), some (.int x2), some (.int x3), none, some (.int x5), none, none] [.int t0] (zm_hp m) (zm_QL K) := by
  unfold j_Model_ofTriplets_L134 at hJ
  refine zq_iconst (v := 0) d_Model_ofTriplets_134 zk_i0 ?_
  refine zr_less (L' := [some (.ref 33), some (.int x1), some (.int x2), some (.int x3), none, some (.int x5), none, none]) ⟨rfl, ⟨rfl, ⟨rfl, ⟨rfl, ⟨rfl, trivial⟩⟩⟩⟩⟩ ?_
  exact s_Model_ofTriplets_L135  hR12  hJ
set_option maxHeartbeats 400000 in
theorem s_Model_ofTriplets_L92 {g : zk_T} {R12 : Int32 → Int32 → Int32 → Int32 → Int32 → zm → Prop} {K : Int64 → zm → Prop} (hR12 : ∀ {x1 : Int32} {x2 : Int32} {x3 : Int32} {x4 : Int32} {x5 : Int32} {m : zm}, R12 x1 x2 x3 x4 x5 m → zq_V (zk_g g) ("RiichiTableModel", prog_9_method_39_code, 8, (some .long), false, zq_rm 1 0 0) 0 0 12 [some (.ref 33), some (.int x1), some (.int x2), some (.int x3), some (.int x4), some (.int x5), none, none] [] (zm_hp m) (zm_QL K)) {x1 : Int32} {x2 : Int32} {x4 : Int32} {x5 : Int32} {t0 : Int32} {t1 : Int32} {m : zm} (hJ : j_Model_ofTriplets_L92  R12 K x1 x2 x4 x5 t0 t1 m) : zq_V (zk_g g) ("RiichiTableModel", prog_9_method_39_code, 8, (some .long), false, zq_rm 1 0 0) 0 0 92 [some (.ref 33), some (.int x1), some (.int x2), none, some (.int x4), some (.int x5), none, none] [.int t0, .int t1] (zm_hp m) (zm_QL K) := by
  unfold j_Model_ofTriplets_L92 at hJ
  refine zq_iadd d_Model_ofTriplets_92 ?_
  refine zr_topi (fun y29 hy29 => ?_)
  have hJ := hJ y29 hy29
  refine zr_istore_n (L' := [some (.ref 33), some (.int x1), some (.int x2), some (.int y29), some (.int x4), some (.int x5), none, none]) d_Model_ofTriplets_93 rfl (Nat.le_of_ble_eq_true rfl) rfl ?_
  refine zq_iload d_Model_ofTriplets_94 rfl ?_
  refine zq_aload_n d_Model_ofTriplets_96 rfl rfl ?_
  refine zm_getR fg_Model_72 d_Model_ofTriplets_97 zs_Model rfl ?_
  refine zq_iload d_Model_ofTriplets_100 rfl ?_
  obtain ⟨hb, hJ⟩ := hJ
  refine zm_ald d_Model_ofTriplets_102 (rfl : zm_sh[54]? = some (.inl (0, 8, .inl (fun _ => 0)))) hb ?_
  refine zq_if_le (tgt := 134) d_Model_ofTriplets_103 (by decide) (fun c => ?_) (fun c => ?_)
  · have hJ := hJ.1 c
    refine zr_less (L' := [some (.ref 33), some (.int x1), some (.int x2), some (.int y29), none, some (.int x5), none, none]) ⟨rfl, ⟨rfl, ⟨rfl, ⟨rfl, ⟨rfl, trivial⟩⟩⟩⟩⟩ ?_
    exact s_Model_ofTriplets_L134  hR12  hJ
  · have hJ := hJ.2 c
    refine zq_aload_n d_Model_ofTriplets_106 rfl rfl ?_
    refine zm_getR fg_Model_69 d_Model_ofTriplets_107 zs_Model rfl ?_
    refine zq_iload d_Model_ofTriplets_110 rfl ?_
    obtain ⟨hb, hJ⟩ := hJ
    refine zm_ald d_Model_ofTriplets_112 (rfl : zm_sh[53]? = some (.inl (0, 8, .inl (fun _ => 0)))) hb ?_
    refine zq_bipush (v := 27) d_Model_ofTriplets_113 zk_b27 ?_
    refine zq_icmp_lt (tgt := 134) d_Model_ofTriplets_115 (by decide) (fun c => ?_) (fun c => ?_)
    · have hJ := hJ.1 c
      refine zr_less (L' := [some (.ref 33), some (.int x1), some (.int x2), some (.int y29), none, some (.int x5), none, none]) ⟨rfl, ⟨rfl, ⟨rfl, ⟨rfl, ⟨rfl, trivial⟩⟩⟩⟩⟩ ?_
      exact s_Model_ofTriplets_L134  hR12  hJ
    · have hJ := hJ.2 c
      refine zq_aload_n d_Model_ofTriplets_118 rfl rfl ?_
      refine zm_getR fg_Model_69 d_Model_ofTriplets_119 zs_Model rfl ?_
      refine zq_iload d_Model_ofTriplets_122 rfl ?_
      obtain ⟨hb, hJ⟩ := hJ
      refine zm_ald d_Model_ofTriplets_124 (rfl : zm_sh[53]? = some (.inl (0, 8, .inl (fun _ => 0)))) hb ?_
      refine zq_bipush (v := 30) d_Model_ofTriplets_125 zk_b30 ?_
      refine zq_icmp_gt (tgt := 134) d_Model_ofTriplets_127 (by decide) (fun c => ?_) (fun c => ?_)
      · have hJ := hJ.1 c
        refine zr_less (L' := [some (.ref 33), some (.int x1), some (.int x2), some (.int y29), none, some (.int x5), none, none]) ⟨rfl, ⟨rfl, ⟨rfl, ⟨rfl, ⟨rfl, trivial⟩⟩⟩⟩⟩ ?_
        exact s_Model_ofTriplets_L134  hR12  hJ
      · have hJ := hJ.2 c
        refine zq_iconst (v := 1) d_Model_ofTriplets_130 zk_i1 ?_
        refine zq_goto (tgt := 135) d_Model_ofTriplets_131 (by decide) ?_
        refine zr_less (L' := [some (.ref 33), some (.int x1), some (.int x2), some (.int y29), none, some (.int x5), none, none]) ⟨rfl, ⟨rfl, ⟨rfl, ⟨rfl, ⟨rfl, trivial⟩⟩⟩⟩⟩ ?_
        exact s_Model_ofTriplets_L135  hR12  hJ
set_option maxHeartbeats 400000 in
theorem s_Model_ofTriplets_L91 {g : zk_T} {R12 : Int32 → Int32 → Int32 → Int32 → Int32 → zm → Prop} {K : Int64 → zm → Prop} (hR12 : ∀ {x1 : Int32} {x2 : Int32} {x3 : Int32} {x4 : Int32} {x5 : Int32} {m : zm}, R12 x1 x2 x3 x4 x5 m → zq_V (zk_g g) ("RiichiTableModel", prog_9_method_39_code, 8, (some .long), false, zq_rm 1 0 0) 0 0 12 [some (.ref 33), some (.int x1), some (.int x2), some (.int x3), some (.int x4), some (.int x5), none, none] [] (zm_hp m) (zm_QL K)) {x1 : Int32} {x2 : Int32} {x4 : Int32} {x5 : Int32} {t0 : Int32} {m : zm} (hJ : j_Model_ofTriplets_L91  R12 K x1 x2 x4 x5 t0 m) : zq_V (zk_g g) ("RiichiTableModel", prog_9_method_39_code, 8, (some .long), false, zq_rm 1 0 0) 0 0 91 [some (.ref 33), some (.int x1), some (.int x2), none, some (.int x4), some (.int x5), none, none] [.int t0] (zm_hp m) (zm_QL K) := by
  unfold j_Model_ofTriplets_L91 at hJ
  refine zq_iconst (v := 0) d_Model_ofTriplets_91 zk_i0 ?_
  refine zr_less (L' := [some (.ref 33), some (.int x1), some (.int x2), none, some (.int x4), some (.int x5), none, none]) ⟨rfl, ⟨rfl, ⟨rfl, ⟨rfl, ⟨rfl, trivial⟩⟩⟩⟩⟩ ?_
  exact s_Model_ofTriplets_L92  hR12  hJ
set_option maxHeartbeats 400000 in
theorem s_Model_ofTriplets_L62 {g : zk_T} {R12 : Int32 → Int32 → Int32 → Int32 → Int32 → zm → Prop} {K : Int64 → zm → Prop} (hR12 : ∀ {x1 : Int32} {x2 : Int32} {x3 : Int32} {x4 : Int32} {x5 : Int32} {m : zm}, R12 x1 x2 x3 x4 x5 m → zq_V (zk_g g) ("RiichiTableModel", prog_9_method_39_code, 8, (some .long), false, zq_rm 1 0 0) 0 0 12 [some (.ref 33), some (.int x1), some (.int x2), some (.int x3), some (.int x4), some (.int x5), none, none] [] (zm_hp m) (zm_QL K)) {x1 : Int32} {x3 : Int32} {x4 : Int32} {x5 : Int32} {t0 : Int32} {t1 : Int32} {m : zm} (hJ : j_Model_ofTriplets_L62  R12 K x1 x3 x4 x5 t0 t1 m) : zq_V (zk_g g) ("RiichiTableModel", prog_9_method_39_code, 8, (some .long), false, zq_rm 1 0 0) 0 0 62 [some (.ref 33), some (.int x1), none, some (.int x3), some (.int x4), some (.int x5), none, none] [.int t0, .int t1] (zm_hp m) (zm_QL K) := by
  unfold j_Model_ofTriplets_L62 at hJ
  refine zq_iadd d_Model_ofTriplets_62 ?_
  refine zr_topi (fun y28 hy28 => ?_)
  have hJ := hJ y28 hy28
  refine zr_istore_n (L' := [some (.ref 33), some (.int x1), some (.int y28), some (.int x3), some (.int x4), some (.int x5), none, none]) d_Model_ofTriplets_63 rfl (Nat.le_of_ble_eq_true rfl) rfl ?_
  refine zq_iload_n d_Model_ofTriplets_64 rfl rfl ?_
  refine zq_aload_n d_Model_ofTriplets_65 rfl rfl ?_
  refine zm_getR fg_Model_72 d_Model_ofTriplets_66 zs_Model rfl ?_
  refine zq_iload d_Model_ofTriplets_69 rfl ?_
  obtain ⟨hb, hJ⟩ := hJ
  refine zm_ald d_Model_ofTriplets_71 (rfl : zm_sh[54]? = some (.inl (0, 8, .inl (fun _ => 0)))) hb ?_
  refine zq_if_le (tgt := 91) d_Model_ofTriplets_72 (by decide) (fun c => ?_) (fun c => ?_)
  · have hJ := hJ.1 c
    refine zr_less (L' := [some (.ref 33), some (.int x1), some (.int y28), none, some (.int x4), some (.int x5), none, none]) ⟨rfl, ⟨rfl, ⟨rfl, ⟨rfl, ⟨rfl, trivial⟩⟩⟩⟩⟩ ?_
    exact s_Model_ofTriplets_L91  hR12  hJ
  · have hJ := hJ.2 c
    refine zq_aload_n d_Model_ofTriplets_75 rfl rfl ?_
    refine zm_getR fg_Model_69 d_Model_ofTriplets_76 zs_Model rfl ?_
    refine zq_iload d_Model_ofTriplets_79 rfl ?_
    obtain ⟨hb, hJ⟩ := hJ
    refine zm_ald d_Model_ofTriplets_81 (rfl : zm_sh[53]? = some (.inl (0, 8, .inl (fun _ => 0)))) hb ?_
    refine zq_bipush (v := 31) d_Model_ofTriplets_82 zk_b31 ?_
    refine zq_icmp_lt (tgt := 91) d_Model_ofTriplets_84 (by decide) (fun c => ?_) (fun c => ?_)
    · have hJ := hJ.1 c
      refine zr_less (L' := [some (.ref 33), some (.int x1), some (.int y28), none, some (.int x4), some (.int x5), none, none]) ⟨rfl, ⟨rfl, ⟨rfl, ⟨rfl, ⟨rfl, trivial⟩⟩⟩⟩⟩ ?_
      exact s_Model_ofTriplets_L91  hR12  hJ
    · have hJ := hJ.2 c
      refine zq_iconst (v := 1) d_Model_ofTriplets_87 zk_i1 ?_
      refine zq_goto (tgt := 92) d_Model_ofTriplets_88 (by decide) ?_
      refine zr_less (L' := [some (.ref 33), some (.int x1), some (.int y28), none, some (.int x4), some (.int x5), none, none]) ⟨rfl, ⟨rfl, ⟨rfl, ⟨rfl, ⟨rfl, trivial⟩⟩⟩⟩⟩ ?_
      exact s_Model_ofTriplets_L92  hR12  hJ
set_option maxHeartbeats 400000 in
theorem s_Model_ofTriplets_L43 {g : zk_T} {R12 : Int32 → Int32 → Int32 → Int32 → Int32 → zm → Prop} {K : Int64 → zm → Prop} (hR12 : ∀ {x1 : Int32} {x2 : Int32} {x3 : Int32} {x4 : Int32} {x5 : Int32} {m : zm}, R12 x1 x2 x3 x4 x5 m → zq_V (zk_g g) ("RiichiTableModel", prog_9_method_39_code, 8, (some .long), false, zq_rm 1 0 0) 0 0 12 [some (.ref 33), some (.int x1), some (.int x2), some (.int x3), some (.int x4), some (.int x5), none, none] [] (zm_hp m) (zm_QL K)) {x2 : Int32} {x3 : Int32} {x4 : Int32} {x5 : Int32} {t0 : Int32} {t1 : Int32} {m : zm} (hJ : j_Model_ofTriplets_L43  R12 K x2 x3 x4 x5 t0 t1 m) : zq_V (zk_g g) ("RiichiTableModel", prog_9_method_39_code, 8, (some .long), false, zq_rm 1 0 0) 0 0 43 [some (.ref 33), none, some (.int x2), some (.int x3), some (.int x4), some (.int x5), none, none] [.int t0, .int t1] (zm_hp m) (zm_QL K) := by
  unfold j_Model_ofTriplets_L43 at hJ
  refine zq_iadd d_Model_ofTriplets_43 ?_
  refine zr_topi (fun y27 hy27 => ?_)
  have hJ := hJ y27 hy27
  refine zr_istore_n (L' := [some (.ref 33), some (.int y27), some (.int x2), some (.int x3), some (.int x4), some (.int x5), none, none]) d_Model_ofTriplets_44 rfl (Nat.le_of_ble_eq_true rfl) rfl ?_
  refine zq_iload_n d_Model_ofTriplets_45 rfl rfl ?_
  refine zq_aload_n d_Model_ofTriplets_46 rfl rfl ?_
  refine zm_getR fg_Model_72 d_Model_ofTriplets_47 zs_Model rfl ?_
  refine zq_iload d_Model_ofTriplets_50 rfl ?_
  obtain ⟨hb, hJ⟩ := hJ
  refine zm_ald d_Model_ofTriplets_52 (rfl : zm_sh[54]? = some (.inl (0, 8, .inl (fun _ => 0)))) hb ?_
  refine zq_iconst (v := 2) d_Model_ofTriplets_53 zk_i2 ?_
  refine zq_icmp_ne (tgt := 61) d_Model_ofTriplets_54 (by decide) (fun c => ?_) (fun c => ?_)
  · have hJ := hJ.1 c
    refine zq_iconst (v := 0) d_Model_ofTriplets_61 zk_i0 ?_
    refine zr_less (L' := [some (.ref 33), some (.int y27), none, some (.int x3), some (.int x4), some (.int x5), none, none]) ⟨rfl, ⟨rfl, ⟨rfl, ⟨rfl, ⟨rfl, trivial⟩⟩⟩⟩⟩ ?_
    exact s_Model_ofTriplets_L62  hR12  hJ
  · have hJ := hJ.2 c
    refine zq_iconst (v := 1) d_Model_ofTriplets_57 zk_i1 ?_
    refine zq_goto (tgt := 62) d_Model_ofTriplets_58 (by decide) ?_
    refine zr_less (L' := [some (.ref 33), some (.int y27), none, some (.int x3), some (.int x4), some (.int x5), none, none]) ⟨rfl, ⟨rfl, ⟨rfl, ⟨rfl, ⟨rfl, trivial⟩⟩⟩⟩⟩ ?_
    exact s_Model_ofTriplets_L62  hR12  hJ
set_option maxHeartbeats 400000 in
theorem s_Model_ofTriplets_L42 {g : zk_T} {R12 : Int32 → Int32 → Int32 → Int32 → Int32 → zm → Prop} {K : Int64 → zm → Prop} (hR12 : ∀ {x1 : Int32} {x2 : Int32} {x3 : Int32} {x4 : Int32} {x5 : Int32} {m : zm}, R12 x1 x2 x3 x4 x5 m → zq_V (zk_g g) ("RiichiTableModel", prog_9_method_39_code, 8, (some .long), false, zq_rm 1 0 0) 0 0 12 [some (.ref 33), some (.int x1), some (.int x2), some (.int x3), some (.int x4), some (.int x5), none, none] [] (zm_hp m) (zm_QL K)) {x2 : Int32} {x3 : Int32} {x4 : Int32} {x5 : Int32} {t0 : Int32} {m : zm} (hJ : j_Model_ofTriplets_L42  R12 K x2 x3 x4 x5 t0 m) : zq_V (zk_g g) ("RiichiTableModel", prog_9_method_39_code, 8, (some .long), false, zq_rm 1 0 0) 0 0 42 [some (.ref 33), none, some (.int x2), some (.int x3), some (.int x4), some (.int x5), none, none] [.int t0] (zm_hp m) (zm_QL K) := by
  unfold j_Model_ofTriplets_L42 at hJ
  refine zq_iconst (v := 0) d_Model_ofTriplets_42 zk_i0 ?_
  refine zr_less (L' := [some (.ref 33), none, some (.int x2), some (.int x3), some (.int x4), some (.int x5), none, none]) ⟨rfl, ⟨rfl, ⟨rfl, ⟨rfl, ⟨rfl, trivial⟩⟩⟩⟩⟩ ?_
  exact s_Model_ofTriplets_L43  hR12  hJ
set_option maxHeartbeats 400000 in
theorem s_Model_ofTriplets_L321 {g : zk_T} {R273 : Int32 → Int32 → Int32 → Int32 → Int64 → Int32 → zm → Prop} {K : Int64 → zm → Prop} (hR273 : ∀ {x1 : Int32} {x2 : Int32} {x3 : Int32} {x4 : Int32} {x5 : Int64} {x7 : Int32} {m : zm}, R273 x1 x2 x3 x4 x5 x7 m → zq_V (zk_g g) ("RiichiTableModel", prog_9_method_39_code, 8, (some .long), false, zq_rm 1 0 0) 0 0 273 [some (.ref 33), some (.int x1), some (.int x2), some (.int x3), some (.int x4), some (.long x5), none, some (.int x7)] [] (zm_hp m) (zm_QL K)) {x1 : Int32} {x2 : Int32} {x3 : Int32} {x4 : Int32} {x7 : Int32} {t0 : Int32} {t2 : Int64} {m : zm} (hJ : j_Model_ofTriplets_L321  R273 K x1 x2 x3 x4 x7 t0 t2 m) : zq_V (zk_g g) ("RiichiTableModel", prog_9_method_39_code, 8, (some .long), false, zq_rm 1 0 0) 0 0 321 [some (.ref 33), some (.int x1), some (.int x2), some (.int x3), some (.int x4), none, none, some (.int x7)] [.int t0, .ref 33, .long t2] (zm_hp m) (zm_QL K) := by
  unfold j_Model_ofTriplets_L321 at hJ
  refine zq_bipush (v := 22) d_Model_ofTriplets_321 zk_b22 ?_
  refine zr_cvL (q := 33) (as := [.int t0, .int 22]) (st := [.long t2]) d_Model_ofTriplets_323 cc_Model_187 cv_Model_bit zs_Model (s_Model_bit  hJ) rfl ⟨Nat.le_of_ble_eq_true rfl, Nat.le_of_ble_eq_true rfl⟩ (Nat.le_of_ble_eq_true rfl) ⟨Nat.le_refl _, Nat.le_refl _⟩ rfl (fun r46 m45 hJ => ?_)
  refine zq_lor d_Model_ofTriplets_326 ?_
  refine zr_topl (fun y47 hy47 => ?_)
  have hJ := hJ y47 hy47
  refine zr_lstore (L' := [some (.ref 33), some (.int x1), some (.int x2), some (.int x3), some (.int x4), some (.long y47), none, some (.int x7)]) d_Model_ofTriplets_327 (Nat.le_of_ble_eq_true rfl) rfl ?_
  refine zr_iinc (d' := 1) d_Model_ofTriplets_329 zk_i1 rfl (Nat.le_of_ble_eq_true rfl) (fun y48 hy48 => ?_)
  have hJ := hJ y48 hy48
  refine zr_L (L' := [some (.ref 33), some (.int x1), some (.int x2), some (.int x3), some (.int x4), some (.long y47), none, some (.int y48)]) rfl ?_
  refine zq_goto (tgt := 273) d_Model_ofTriplets_332 (by decide) ?_
  refine zr_less (L' := [some (.ref 33), some (.int x1), some (.int x2), some (.int x3), some (.int x4), some (.long y47), none, some (.int y48)]) ⟨rfl, ⟨rfl, ⟨rfl, ⟨rfl, ⟨rfl, ⟨rfl, ⟨rfl, trivial⟩⟩⟩⟩⟩⟩⟩ ?_
  exact hR273  hJ
set_option maxHeartbeats 400000 in
theorem s_Model_ofTriplets_L320 {g : zk_T} {R273 : Int32 → Int32 → Int32 → Int32 → Int64 → Int32 → zm → Prop} {K : Int64 → zm → Prop} (hR273 : ∀ {x1 : Int32} {x2 : Int32} {x3 : Int32} {x4 : Int32} {x5 : Int64} {x7 : Int32} {m : zm}, R273 x1 x2 x3 x4 x5 x7 m → zq_V (zk_g g) ("RiichiTableModel", prog_9_method_39_code, 8, (some .long), false, zq_rm 1 0 0) 0 0 273 [some (.ref 33), some (.int x1), some (.int x2), some (.int x3), some (.int x4), some (.long x5), none, some (.int x7)] [] (zm_hp m) (zm_QL K)) {x1 : Int32} {x2 : Int32} {x3 : Int32} {x4 : Int32} {x7 : Int32} {t1 : Int64} {m : zm} (hJ : j_Model_ofTriplets_L320  R273 K x1 x2 x3 x4 x7 t1 m) : zq_V (zk_g g) ("RiichiTableModel", prog_9_method_39_code, 8, (some .long), false, zq_rm 1 0 0) 0 0 320 [some (.ref 33), some (.int x1), some (.int x2), some (.int x3), some (.int x4), none, none, some (.int x7)] [.ref 33, .long t1] (zm_hp m) (zm_QL K) := by
  unfold j_Model_ofTriplets_L320 at hJ
  refine zq_iconst (v := 0) d_Model_ofTriplets_320 zk_i0 ?_
  refine zr_less (L' := [some (.ref 33), some (.int x1), some (.int x2), some (.int x3), some (.int x4), none, none, some (.int x7)]) ⟨rfl, ⟨rfl, ⟨rfl, ⟨rfl, ⟨rfl, ⟨rfl, trivial⟩⟩⟩⟩⟩⟩ ?_
  exact s_Model_ofTriplets_L321  hR273  hJ
set_option maxHeartbeats 400000 in
theorem s_Model_ofTriplets_L466 {g : zk_T} {K : Int64 → zm → Prop} {t0 : Int32} {t2 : Int64} {m : zm} (hJ : j_Model_ofTriplets_L466   K t0 t2 m) : zq_V (zk_g g) ("RiichiTableModel", prog_9_method_39_code, 8, (some .long), false, zq_rm 1 0 0) 0 0 466 [some (.ref 33), none, none, none, none, none, none, none] [.int t0, .ref 33, .long t2] (zm_hp m) (zm_QL K) := by
  unfold j_Model_ofTriplets_L466 at hJ
  refine zq_bipush (v := 36) d_Model_ofTriplets_466 zk_b36 ?_
  refine zr_cvL (q := 33) (as := [.int t0, .int 36]) (st := [.long t2]) d_Model_ofTriplets_468 cc_Model_187 cv_Model_bit zs_Model (s_Model_bit  hJ) rfl ⟨Nat.le_of_ble_eq_true rfl, Nat.le_of_ble_eq_true rfl⟩ (Nat.le_of_ble_eq_true rfl) ⟨Nat.le_refl _, Nat.le_refl _⟩ rfl (fun r61 m60 hJ => ?_)
  refine zq_lor d_Model_ofTriplets_471 ?_
  exact zq_lret d_Model_ofTriplets_472 rfl (Nat.le_refl _) (Nat.le_refl _) ⟨_, _, rfl, rfl, hJ⟩
set_option maxHeartbeats 400000 in
theorem s_Model_ofTriplets_L448 {g : zk_T} {K : Int64 → zm → Prop} {x4 : Int32} {t0 : Int32} {t2 : Int64} {m : zm} (hJ : j_Model_ofTriplets_L448   K x4 t0 t2 m) : zq_V (zk_g g) ("RiichiTableModel", prog_9_method_39_code, 8, (some .long), false, zq_rm 1 0 0) 0 0 448 [some (.ref 33), none, none, none, some (.int x4), none, none, none] [.int t0, .ref 33, .long t2] (zm_hp m) (zm_QL K) := by
  unfold j_Model_ofTriplets_L448 at hJ
  refine zq_bipush (v := 35) d_Model_ofTriplets_448 zk_b35 ?_
  refine zr_cvL (q := 33) (as := [.int t0, .int 35]) (st := [.long t2]) d_Model_ofTriplets_450 cc_Model_187 cv_Model_bit zs_Model (s_Model_bit  hJ) rfl ⟨Nat.le_of_ble_eq_true rfl, Nat.le_of_ble_eq_true rfl⟩ (Nat.le_of_ble_eq_true rfl) ⟨Nat.le_refl _, Nat.le_refl _⟩ rfl (fun r59 m58 hJ => ?_)
  refine zq_lor d_Model_ofTriplets_453 ?_
  refine zq_aload_n d_Model_ofTriplets_454 rfl rfl ?_
  refine zq_iload d_Model_ofTriplets_455 rfl ?_
  refine zq_iconst (v := 4) d_Model_ofTriplets_457 zk_i4 ?_
  refine zq_icmp_ne (tgt := 465) d_Model_ofTriplets_458 (by decide) (fun c => ?_) (fun c => ?_)
  · have hJ := hJ.1 c
    refine zq_iconst (v := 0) d_Model_ofTriplets_465 zk_i0 ?_
    refine zr_less (L' := [some (.ref 33), none, none, none, none, none, none, none]) ⟨rfl, trivial⟩ ?_
    exact s_Model_ofTriplets_L466    hJ
  · have hJ := hJ.2 c
    refine zq_iconst (v := 1) d_Model_ofTriplets_461 zk_i1 ?_
    refine zq_goto (tgt := 466) d_Model_ofTriplets_462 (by decide) ?_
    refine zr_less (L' := [some (.ref 33), none, none, none, none, none, none, none]) ⟨rfl, trivial⟩ ?_
    exact s_Model_ofTriplets_L466    hJ
set_option maxHeartbeats 400000 in
theorem s_Model_ofTriplets_L447 {g : zk_T} {K : Int64 → zm → Prop} {x4 : Int32} {t1 : Int64} {m : zm} (hJ : j_Model_ofTriplets_L447   K x4 t1 m) : zq_V (zk_g g) ("RiichiTableModel", prog_9_method_39_code, 8, (some .long), false, zq_rm 1 0 0) 0 0 447 [some (.ref 33), none, none, none, some (.int x4), none, none, none] [.ref 33, .long t1] (zm_hp m) (zm_QL K) := by
  unfold j_Model_ofTriplets_L447 at hJ
  refine zq_iconst (v := 0) d_Model_ofTriplets_447 zk_i0 ?_
  refine zr_less (L' := [some (.ref 33), none, none, none, some (.int x4), none, none, none]) ⟨rfl, ⟨rfl, trivial⟩⟩ ?_
  exact s_Model_ofTriplets_L448    hJ
set_option maxHeartbeats 400000 in
theorem s_Model_ofTriplets_L408 {g : zk_T} {K : Int64 → zm → Prop} {x4 : Int32} {t0 : Int32} {t2 : Int64} {m : zm} (hJ : j_Model_ofTriplets_L408   K x4 t0 t2 m) : zq_V (zk_g g) ("RiichiTableModel", prog_9_method_39_code, 8, (some .long), false, zq_rm 1 0 0) 0 0 408 [some (.ref 33), none, none, none, some (.int x4), none, none, none] [.int t0, .ref 33, .long t2] (zm_hp m) (zm_QL K) := by
  unfold j_Model_ofTriplets_L408 at hJ
  refine zq_bipush (v := 34) d_Model_ofTriplets_408 zk_b34 ?_
  refine zr_cvL (q := 33) (as := [.int t0, .int 34]) (st := [.long t2]) d_Model_ofTriplets_410 cc_Model_187 cv_Model_bit zs_Model (s_Model_bit  hJ) rfl ⟨Nat.le_of_ble_eq_true rfl, Nat.le_of_ble_eq_true rfl⟩ (Nat.le_of_ble_eq_true rfl) ⟨Nat.le_refl _, Nat.le_refl _⟩ rfl (fun r56 m55 hJ => ?_)
  refine zq_lor d_Model_ofTriplets_413 ?_
  refine zr_topl (fun y57 hy57 => ?_)
  have hJ := hJ y57 hy57
  refine zr_lstore (L' := [some (.ref 33), none, none, none, some (.int x4), some (.long y57), none, none]) d_Model_ofTriplets_414 (Nat.le_of_ble_eq_true rfl) rfl ?_
  refine zq_lload d_Model_ofTriplets_416 rfl ?_
  refine zq_aload_n d_Model_ofTriplets_418 rfl rfl ?_
  refine zq_iload d_Model_ofTriplets_419 rfl ?_
  refine zq_iconst (v := 3) d_Model_ofTriplets_421 zk_i3 ?_
  refine zq_icmp_ne (tgt := 447) d_Model_ofTriplets_422 (by decide) (fun c => ?_) (fun c => ?_)
  · have hJ := hJ.1 c
    refine zr_less (L' := [some (.ref 33), none, none, none, some (.int x4), none, none, none]) ⟨rfl, ⟨rfl, trivial⟩⟩ ?_
    exact s_Model_ofTriplets_L447    hJ
  · have hJ := hJ.2 c
    refine zq_aload_n d_Model_ofTriplets_425 rfl rfl ?_
    refine zm_getI fg_Model_137 d_Model_ofTriplets_426 zs_Model rfl ?_
    refine zq_bipush (v := 27) d_Model_ofTriplets_429 zk_b27 ?_
    refine zq_icmp_lt (tgt := 447) d_Model_ofTriplets_431 (by decide) (fun c => ?_) (fun c => ?_)
    · have hJ := hJ.1 c
      refine zr_less (L' := [some (.ref 33), none, none, none, some (.int x4), none, none, none]) ⟨rfl, ⟨rfl, trivial⟩⟩ ?_
      exact s_Model_ofTriplets_L447    hJ
    · have hJ := hJ.2 c
      refine zq_aload_n d_Model_ofTriplets_434 rfl rfl ?_
      refine zm_getI fg_Model_137 d_Model_ofTriplets_435 zs_Model rfl ?_
      refine zq_bipush (v := 30) d_Model_ofTriplets_438 zk_b30 ?_
      refine zq_icmp_gt (tgt := 447) d_Model_ofTriplets_440 (by decide) (fun c => ?_) (fun c => ?_)
      · have hJ := hJ.1 c
        refine zr_less (L' := [some (.ref 33), none, none, none, some (.int x4), none, none, none]) ⟨rfl, ⟨rfl, trivial⟩⟩ ?_
        exact s_Model_ofTriplets_L447    hJ
      · have hJ := hJ.2 c
        refine zq_iconst (v := 1) d_Model_ofTriplets_443 zk_i1 ?_
        refine zq_goto (tgt := 448) d_Model_ofTriplets_444 (by decide) ?_
        refine zr_less (L' := [some (.ref 33), none, none, none, some (.int x4), none, none, none]) ⟨rfl, ⟨rfl, trivial⟩⟩ ?_
        exact s_Model_ofTriplets_L448    hJ
set_option maxHeartbeats 400000 in
theorem s_Model_ofTriplets_L391 {g : zk_T} {K : Int64 → zm → Prop} {x3 : Int32} {x4 : Int32} {t0 : Int32} {t2 : Int64} {m : zm} (hJ : j_Model_ofTriplets_L391   K x3 x4 t0 t2 m) : zq_V (zk_g g) ("RiichiTableModel", prog_9_method_39_code, 8, (some .long), false, zq_rm 1 0 0) 0 0 391 [some (.ref 33), none, none, some (.int x3), some (.int x4), none, none, none] [.int t0, .ref 33, .long t2] (zm_hp m) (zm_QL K) := by
  unfold j_Model_ofTriplets_L391 at hJ
  refine zq_bipush (v := 33) d_Model_ofTriplets_391 zk_b33 ?_
  refine zr_cvL (q := 33) (as := [.int t0, .int 33]) (st := [.long t2]) d_Model_ofTriplets_393 cc_Model_187 cv_Model_bit zs_Model (s_Model_bit  hJ) rfl ⟨Nat.le_of_ble_eq_true rfl, Nat.le_of_ble_eq_true rfl⟩ (Nat.le_of_ble_eq_true rfl) ⟨Nat.le_refl _, Nat.le_refl _⟩ rfl (fun r54 m53 hJ => ?_)
  refine zq_lor d_Model_ofTriplets_396 ?_
  refine zq_aload_n d_Model_ofTriplets_397 rfl rfl ?_
  refine zq_iload_n d_Model_ofTriplets_398 rfl rfl ?_
  refine zq_iconst (v := 3) d_Model_ofTriplets_399 zk_i3 ?_
  refine zq_icmp_ne (tgt := 407) d_Model_ofTriplets_400 (by decide) (fun c => ?_) (fun c => ?_)
  · have hJ := hJ.1 c
    refine zq_iconst (v := 0) d_Model_ofTriplets_407 zk_i0 ?_
    refine zr_less (L' := [some (.ref 33), none, none, none, some (.int x4), none, none, none]) ⟨rfl, ⟨rfl, trivial⟩⟩ ?_
    exact s_Model_ofTriplets_L408    hJ
  · have hJ := hJ.2 c
    refine zq_iconst (v := 1) d_Model_ofTriplets_403 zk_i1 ?_
    refine zq_goto (tgt := 408) d_Model_ofTriplets_404 (by decide) ?_
    refine zr_less (L' := [some (.ref 33), none, none, none, some (.int x4), none, none, none]) ⟨rfl, ⟨rfl, trivial⟩⟩ ?_
    exact s_Model_ofTriplets_L408    hJ
set_option maxHeartbeats 400000 in
theorem s_Model_ofTriplets_L374 {g : zk_T} {K : Int64 → zm → Prop} {x2 : Int32} {x3 : Int32} {x4 : Int32} {t0 : Int32} {t2 : Int64} {m : zm} (hJ : j_Model_ofTriplets_L374   K x2 x3 x4 t0 t2 m) : zq_V (zk_g g) ("RiichiTableModel", prog_9_method_39_code, 8, (some .long), false, zq_rm 1 0 0) 0 0 374 [some (.ref 33), none, some (.int x2), some (.int x3), some (.int x4), none, none, none] [.int t0, .ref 33, .long t2] (zm_hp m) (zm_QL K) := by
  unfold j_Model_ofTriplets_L374 at hJ
  refine zq_bipush (v := 32) d_Model_ofTriplets_374 zk_b32 ?_
  refine zr_cvL (q := 33) (as := [.int t0, .int 32]) (st := [.long t2]) d_Model_ofTriplets_376 cc_Model_187 cv_Model_bit zs_Model (s_Model_bit  hJ) rfl ⟨Nat.le_of_ble_eq_true rfl, Nat.le_of_ble_eq_true rfl⟩ (Nat.le_of_ble_eq_true rfl) ⟨Nat.le_refl _, Nat.le_refl _⟩ rfl (fun r52 m51 hJ => ?_)
  refine zq_lor d_Model_ofTriplets_379 ?_
  refine zq_aload_n d_Model_ofTriplets_380 rfl rfl ?_
  refine zq_iload_n d_Model_ofTriplets_381 rfl rfl ?_
  refine zq_iconst (v := 4) d_Model_ofTriplets_382 zk_i4 ?_
  refine zq_icmp_ne (tgt := 390) d_Model_ofTriplets_383 (by decide) (fun c => ?_) (fun c => ?_)
  · have hJ := hJ.1 c
    refine zq_iconst (v := 0) d_Model_ofTriplets_390 zk_i0 ?_
    refine zr_less (L' := [some (.ref 33), none, none, some (.int x3), some (.int x4), none, none, none]) ⟨rfl, ⟨rfl, ⟨rfl, trivial⟩⟩⟩ ?_
    exact s_Model_ofTriplets_L391    hJ
  · have hJ := hJ.2 c
    refine zq_iconst (v := 1) d_Model_ofTriplets_386 zk_i1 ?_
    refine zq_goto (tgt := 391) d_Model_ofTriplets_387 (by decide) ?_
    refine zr_less (L' := [some (.ref 33), none, none, some (.int x3), some (.int x4), none, none, none]) ⟨rfl, ⟨rfl, ⟨rfl, trivial⟩⟩⟩ ?_
    exact s_Model_ofTriplets_L391    hJ
set_option maxHeartbeats 400000 in
theorem s_Model_ofTriplets_L357 {g : zk_T} {K : Int64 → zm → Prop} {x1 : Int32} {x2 : Int32} {x3 : Int32} {x4 : Int32} {t0 : Int32} {t2 : Int64} {m : zm} (hJ : j_Model_ofTriplets_L357   K x1 x2 x3 x4 t0 t2 m) : zq_V (zk_g g) ("RiichiTableModel", prog_9_method_39_code, 8, (some .long), false, zq_rm 1 0 0) 0 0 357 [some (.ref 33), some (.int x1), some (.int x2), some (.int x3), some (.int x4), none, none, none] [.int t0, .ref 33, .long t2] (zm_hp m) (zm_QL K) := by
  unfold j_Model_ofTriplets_L357 at hJ
  refine zq_bipush (v := 23) d_Model_ofTriplets_357 zk_b23 ?_
  refine zr_cvL (q := 33) (as := [.int t0, .int 23]) (st := [.long t2]) d_Model_ofTriplets_359 cc_Model_187 cv_Model_bit zs_Model (s_Model_bit  hJ) rfl ⟨Nat.le_of_ble_eq_true rfl, Nat.le_of_ble_eq_true rfl⟩ (Nat.le_of_ble_eq_true rfl) ⟨Nat.le_refl _, Nat.le_refl _⟩ rfl (fun r50 m49 hJ => ?_)
  refine zq_lor d_Model_ofTriplets_362 ?_
  refine zq_aload_n d_Model_ofTriplets_363 rfl rfl ?_
  refine zq_iload_n d_Model_ofTriplets_364 rfl rfl ?_
  refine zq_iconst (v := 4) d_Model_ofTriplets_365 zk_i4 ?_
  refine zq_icmp_ne (tgt := 373) d_Model_ofTriplets_366 (by decide) (fun c => ?_) (fun c => ?_)
  · have hJ := hJ.1 c
    refine zq_iconst (v := 0) d_Model_ofTriplets_373 zk_i0 ?_
    refine zr_less (L' := [some (.ref 33), none, some (.int x2), some (.int x3), some (.int x4), none, none, none]) ⟨rfl, ⟨rfl, ⟨rfl, ⟨rfl, trivial⟩⟩⟩⟩ ?_
    exact s_Model_ofTriplets_L374    hJ
  · have hJ := hJ.2 c
    refine zq_iconst (v := 1) d_Model_ofTriplets_369 zk_i1 ?_
    refine zq_goto (tgt := 374) d_Model_ofTriplets_370 (by decide) ?_
    refine zr_less (L' := [some (.ref 33), none, some (.int x2), some (.int x3), some (.int x4), none, none, none]) ⟨rfl, ⟨rfl, ⟨rfl, ⟨rfl, trivial⟩⟩⟩⟩ ?_
    exact s_Model_ofTriplets_L374    hJ
set_option maxHeartbeats 400000 in
theorem s_Model_ofTriplets_L356 {g : zk_T} {K : Int64 → zm → Prop} {x1 : Int32} {x2 : Int32} {x3 : Int32} {x4 : Int32} {t1 : Int64} {m : zm} (hJ : j_Model_ofTriplets_L356   K x1 x2 x3 x4 t1 m) : zq_V (zk_g g) ("RiichiTableModel", prog_9_method_39_code, 8, (some .long), false, zq_rm 1 0 0) 0 0 356 [some (.ref 33), some (.int x1), some (.int x2), some (.int x3), some (.int x4), none, none, none] [.ref 33, .long t1] (zm_hp m) (zm_QL K) := by
  unfold j_Model_ofTriplets_L356 at hJ
  refine zq_iconst (v := 0) d_Model_ofTriplets_356 zk_i0 ?_
  refine zr_less (L' := [some (.ref 33), some (.int x1), some (.int x2), some (.int x3), some (.int x4), none, none, none]) ⟨rfl, ⟨rfl, ⟨rfl, ⟨rfl, ⟨rfl, trivial⟩⟩⟩⟩⟩ ?_
  exact s_Model_ofTriplets_L357    hJ
set_option maxHeartbeats 400000 in
theorem s_Model_ofTriplets_L273 {g : zk_T} {K : Int64 → zm → Prop} : ∀ (n : Nat) {x1 : Int32} {x2 : Int32} {x3 : Int32} {x4 : Int32} {x5 : Int64} {x7 : Int32} {m : zm}, j_Model_ofTriplets_L273   K n x1 x2 x3 x4 x5 x7 m → zq_V (zk_g g) ("RiichiTableModel", prog_9_method_39_code, 8, (some .long), false, zq_rm 1 0 0) 0 0 273 [some (.ref 33), some (.int x1), some (.int x2), some (.int x3), some (.int x4), some (.long x5), none, some (.int x7)] [] (zm_hp m) (zm_QL K) := by
  intro n
  induction n with
  | zero =>
    intro x1 x2 x3 x4 x5 x7 m hJ
    exact False.elim hJ
  | succ n ih =>
    intro x1 x2 x3 x4 x5 x7 m hJ
    rw [j_Model_ofTriplets_L273] at hJ
    refine zq_iload d_Model_ofTriplets_273 rfl ?_
    refine zq_bipush (v := 9) d_Model_ofTriplets_275 zk_b9 ?_
    refine zq_icmp_ge (tgt := 335) d_Model_ofTriplets_277 (by decide) (fun c => ?_) (fun c => ?_)
    · have hJ := hJ.1 c
      refine zq_lload d_Model_ofTriplets_335 rfl ?_
      refine zq_aload_n d_Model_ofTriplets_337 rfl rfl ?_
      refine zq_iload_n d_Model_ofTriplets_338 rfl rfl ?_
      refine zq_iconst (v := 2) d_Model_ofTriplets_339 zk_i2 ?_
      refine zq_icmp_ne (tgt := 356) d_Model_ofTriplets_340 (by decide) (fun c => ?_) (fun c => ?_)
      · have hJ := hJ.1 c
        refine zr_less (L' := [some (.ref 33), some (.int x1), some (.int x2), some (.int x3), some (.int x4), none, none, none]) ⟨rfl, ⟨rfl, ⟨rfl, ⟨rfl, ⟨rfl, trivial⟩⟩⟩⟩⟩ ?_
        exact s_Model_ofTriplets_L356    hJ
      · have hJ := hJ.2 c
        refine zq_aload_n d_Model_ofTriplets_343 rfl rfl ?_
        refine zm_getI fg_Model_137 d_Model_ofTriplets_344 zs_Model rfl ?_
        refine zq_bipush (v := 31) d_Model_ofTriplets_347 zk_b31 ?_
        refine zq_icmp_lt (tgt := 356) d_Model_ofTriplets_349 (by decide) (fun c => ?_) (fun c => ?_)
        · have hJ := hJ.1 c
          refine zr_less (L' := [some (.ref 33), some (.int x1), some (.int x2), some (.int x3), some (.int x4), none, none, none]) ⟨rfl, ⟨rfl, ⟨rfl, ⟨rfl, ⟨rfl, trivial⟩⟩⟩⟩⟩ ?_
          exact s_Model_ofTriplets_L356    hJ
        · have hJ := hJ.2 c
          refine zq_iconst (v := 1) d_Model_ofTriplets_352 zk_i1 ?_
          refine zq_goto (tgt := 357) d_Model_ofTriplets_353 (by decide) ?_
          refine zr_less (L' := [some (.ref 33), some (.int x1), some (.int x2), some (.int x3), some (.int x4), none, none, none]) ⟨rfl, ⟨rfl, ⟨rfl, ⟨rfl, ⟨rfl, trivial⟩⟩⟩⟩⟩ ?_
          exact s_Model_ofTriplets_L357    hJ
    · have hJ := hJ.2 c
      refine zq_lload d_Model_ofTriplets_280 rfl ?_
      refine zq_aload_n d_Model_ofTriplets_282 rfl rfl ?_
      refine zq_aload_n d_Model_ofTriplets_283 rfl rfl ?_
      refine zq_iload d_Model_ofTriplets_284 rfl ?_
      refine zr_cvI (q := 33) (as := [.int x7]) (st := [.ref 33, .long x5]) d_Model_ofTriplets_286 cc_Model_237 cv_Model_has zs_Model (s_Model_has  hJ) rfl ⟨Nat.le_of_ble_eq_true rfl, Nat.le_of_ble_eq_true rfl⟩ (Nat.le_of_ble_eq_true rfl) ⟨Nat.le_refl _, Nat.le_refl _⟩ rfl (fun r40 m39 hJ => ?_)
      refine zq_if_eq (tgt := 320) d_Model_ofTriplets_289 (by decide) (fun c => ?_) (fun c => ?_)
      · have hJ := hJ.1 c
        refine zr_less (L' := [some (.ref 33), some (.int x1), some (.int x2), some (.int x3), some (.int x4), none, none, some (.int x7)]) ⟨rfl, ⟨rfl, ⟨rfl, ⟨rfl, ⟨rfl, ⟨rfl, trivial⟩⟩⟩⟩⟩⟩ ?_
        exact s_Model_ofTriplets_L320  ih  hJ
      · have hJ := hJ.2 c
        refine zq_aload_n d_Model_ofTriplets_292 rfl rfl ?_
        refine zq_bipush (v := 9) d_Model_ofTriplets_293 zk_b9 ?_
        refine zq_iload d_Model_ofTriplets_295 rfl ?_
        refine zq_iadd d_Model_ofTriplets_297 ?_
        refine zr_cvI (q := 33) (as := [.int (9 + x7)]) (st := [.ref 33, .long x5]) d_Model_ofTriplets_298 cc_Model_237 cv_Model_has zs_Model (s_Model_has  hJ) rfl ⟨Nat.le_of_ble_eq_true rfl, Nat.le_of_ble_eq_true rfl⟩ (Nat.le_of_ble_eq_true rfl) ⟨Nat.le_refl _, Nat.le_refl _⟩ rfl (fun r42 m41 hJ => ?_)
        refine zq_if_eq (tgt := 320) d_Model_ofTriplets_301 (by decide) (fun c => ?_) (fun c => ?_)
        · have hJ := hJ.1 c
          refine zr_less (L' := [some (.ref 33), some (.int x1), some (.int x2), some (.int x3), some (.int x4), none, none, some (.int x7)]) ⟨rfl, ⟨rfl, ⟨rfl, ⟨rfl, ⟨rfl, ⟨rfl, trivial⟩⟩⟩⟩⟩⟩ ?_
          exact s_Model_ofTriplets_L320  ih  hJ
        · have hJ := hJ.2 c
          refine zq_aload_n d_Model_ofTriplets_304 rfl rfl ?_
          refine zq_bipush (v := 18) d_Model_ofTriplets_305 zk_b18 ?_
          refine zq_iload d_Model_ofTriplets_307 rfl ?_
          refine zq_iadd d_Model_ofTriplets_309 ?_
          refine zr_cvI (q := 33) (as := [.int (18 + x7)]) (st := [.ref 33, .long x5]) d_Model_ofTriplets_310 cc_Model_237 cv_Model_has zs_Model (s_Model_has  hJ) rfl ⟨Nat.le_of_ble_eq_true rfl, Nat.le_of_ble_eq_true rfl⟩ (Nat.le_of_ble_eq_true rfl) ⟨Nat.le_refl _, Nat.le_refl _⟩ rfl (fun r44 m43 hJ => ?_)
          refine zq_if_eq (tgt := 320) d_Model_ofTriplets_313 (by decide) (fun c => ?_) (fun c => ?_)
          · have hJ := hJ.1 c
            refine zr_less (L' := [some (.ref 33), some (.int x1), some (.int x2), some (.int x3), some (.int x4), none, none, some (.int x7)]) ⟨rfl, ⟨rfl, ⟨rfl, ⟨rfl, ⟨rfl, ⟨rfl, trivial⟩⟩⟩⟩⟩⟩ ?_
            exact s_Model_ofTriplets_L320  ih  hJ
          · have hJ := hJ.2 c
            refine zq_iconst (v := 1) d_Model_ofTriplets_316 zk_i1 ?_
            refine zq_goto (tgt := 321) d_Model_ofTriplets_317 (by decide) ?_
            refine zr_less (L' := [some (.ref 33), some (.int x1), some (.int x2), some (.int x3), some (.int x4), none, none, some (.int x7)]) ⟨rfl, ⟨rfl, ⟨rfl, ⟨rfl, ⟨rfl, ⟨rfl, trivial⟩⟩⟩⟩⟩⟩ ?_
            exact s_Model_ofTriplets_L321  ih  hJ
set_option maxHeartbeats 400000 in
theorem s_Model_ofTriplets_L262 {g : zk_T} {K : Int64 → zm → Prop} {x1 : Int32} {x2 : Int32} {x3 : Int32} {x4 : Int32} {t0 : Int32} {t2 : Int64} {m : zm} (hJ : j_Model_ofTriplets_L262   K x1 x2 x3 x4 t0 t2 m) : zq_V (zk_g g) ("RiichiTableModel", prog_9_method_39_code, 8, (some .long), false, zq_rm 1 0 0) 0 0 262 [some (.ref 33), some (.int x1), some (.int x2), some (.int x3), some (.int x4), none, none, none] [.int t0, .ref 33, .long t2] (zm_hp m) (zm_QL K) := by
  unfold j_Model_ofTriplets_L262 at hJ
  refine zq_bipush (v := 21) d_Model_ofTriplets_262 zk_b21 ?_
  refine zr_cvL (q := 33) (as := [.int t0, .int 21]) (st := [.long t2]) d_Model_ofTriplets_264 cc_Model_187 cv_Model_bit zs_Model (s_Model_bit  hJ) rfl ⟨Nat.le_of_ble_eq_true rfl, Nat.le_of_ble_eq_true rfl⟩ (Nat.le_of_ble_eq_true rfl) ⟨Nat.le_refl _, Nat.le_refl _⟩ rfl (fun r37 m36 hJ => ?_)
  refine zq_lor d_Model_ofTriplets_267 ?_
  refine zr_topl (fun y38 hy38 => ?_)
  have hJ := hJ y38 hy38
  refine zr_lstore (L' := [some (.ref 33), some (.int x1), some (.int x2), some (.int x3), some (.int x4), some (.long y38), none, none]) d_Model_ofTriplets_268 (Nat.le_of_ble_eq_true rfl) rfl ?_
  refine zq_iconst (v := 0) d_Model_ofTriplets_270 zk_i0 ?_
  refine zr_istore (L' := [some (.ref 33), some (.int x1), some (.int x2), some (.int x3), some (.int x4), some (.long y38), none, some (.int 0)]) d_Model_ofTriplets_271 (Nat.le_of_ble_eq_true rfl) rfl ?_
  refine zr_less (L' := [some (.ref 33), some (.int x1), some (.int x2), some (.int x3), some (.int x4), some (.long y38), none, some (.int 0)]) ⟨rfl, ⟨rfl, ⟨rfl, ⟨rfl, ⟨rfl, ⟨rfl, ⟨rfl, trivial⟩⟩⟩⟩⟩⟩⟩ ?_
  obtain ⟨n273, hJ⟩ := hJ
  exact s_Model_ofTriplets_L273   n273  hJ
set_option maxHeartbeats 400000 in
theorem s_Model_ofTriplets_L245 {g : zk_T} {K : Int64 → zm → Prop} {x1 : Int32} {x2 : Int32} {x3 : Int32} {x4 : Int32} {t0 : Int32} {t2 : Int64} {m : zm} (hJ : j_Model_ofTriplets_L245   K x1 x2 x3 x4 t0 t2 m) : zq_V (zk_g g) ("RiichiTableModel", prog_9_method_39_code, 8, (some .long), false, zq_rm 1 0 0) 0 0 245 [some (.ref 33), some (.int x1), some (.int x2), some (.int x3), some (.int x4), none, none, none] [.int t0, .ref 33, .long t2] (zm_hp m) (zm_QL K) := by
  unfold j_Model_ofTriplets_L245 at hJ
  refine zq_bipush (v := 20) d_Model_ofTriplets_245 zk_b20 ?_
  refine zr_cvL (q := 33) (as := [.int t0, .int 20]) (st := [.long t2]) d_Model_ofTriplets_247 cc_Model_187 cv_Model_bit zs_Model (s_Model_bit  hJ) rfl ⟨Nat.le_of_ble_eq_true rfl, Nat.le_of_ble_eq_true rfl⟩ (Nat.le_of_ble_eq_true rfl) ⟨Nat.le_refl _, Nat.le_refl _⟩ rfl (fun r35 m34 hJ => ?_)
  refine zq_lor d_Model_ofTriplets_250 ?_
  refine zq_aload_n d_Model_ofTriplets_251 rfl rfl ?_
  refine zq_iload_n d_Model_ofTriplets_252 rfl rfl ?_
  refine zq_iconst (v := 3) d_Model_ofTriplets_253 zk_i3 ?_
  refine zq_icmp_lt (tgt := 261) d_Model_ofTriplets_254 (by decide) (fun c => ?_) (fun c => ?_)
  · have hJ := hJ.1 c
    refine zq_iconst (v := 0) d_Model_ofTriplets_261 zk_i0 ?_
    refine zr_less (L' := [some (.ref 33), some (.int x1), some (.int x2), some (.int x3), some (.int x4), none, none, none]) ⟨rfl, ⟨rfl, ⟨rfl, ⟨rfl, ⟨rfl, trivial⟩⟩⟩⟩⟩ ?_
    exact s_Model_ofTriplets_L262    hJ
  · have hJ := hJ.2 c
    refine zq_iconst (v := 1) d_Model_ofTriplets_257 zk_i1 ?_
    refine zq_goto (tgt := 262) d_Model_ofTriplets_258 (by decide) ?_
    refine zr_less (L' := [some (.ref 33), some (.int x1), some (.int x2), some (.int x3), some (.int x4), none, none, none]) ⟨rfl, ⟨rfl, ⟨rfl, ⟨rfl, ⟨rfl, trivial⟩⟩⟩⟩⟩ ?_
    exact s_Model_ofTriplets_L262    hJ
set_option maxHeartbeats 400000 in
theorem s_Model_ofTriplets_L228 {g : zk_T} {K : Int64 → zm → Prop} {x1 : Int32} {x2 : Int32} {x3 : Int32} {x4 : Int32} {t0 : Int32} {t2 : Int64} {m : zm} (hJ : j_Model_ofTriplets_L228   K x1 x2 x3 x4 t0 t2 m) : zq_V (zk_g g) ("RiichiTableModel", prog_9_method_39_code, 8, (some .long), false, zq_rm 1 0 0) 0 0 228 [some (.ref 33), some (.int x1), some (.int x2), some (.int x3), some (.int x4), none, none, none] [.int t0, .ref 33, .long t2] (zm_hp m) (zm_QL K) := by
  unfold j_Model_ofTriplets_L228 at hJ
  refine zq_bipush (v := 19) d_Model_ofTriplets_228 zk_b19 ?_
  refine zr_cvL (q := 33) (as := [.int t0, .int 19]) (st := [.long t2]) d_Model_ofTriplets_230 cc_Model_187 cv_Model_bit zs_Model (s_Model_bit  hJ) rfl ⟨Nat.le_of_ble_eq_true rfl, Nat.le_of_ble_eq_true rfl⟩ (Nat.le_of_ble_eq_true rfl) ⟨Nat.le_refl _, Nat.le_refl _⟩ rfl (fun r33 m32 hJ => ?_)
  refine zq_lor d_Model_ofTriplets_233 ?_
  refine zq_aload_n d_Model_ofTriplets_234 rfl rfl ?_
  refine zq_iload_n d_Model_ofTriplets_235 rfl rfl ?_
  refine zq_iconst (v := 3) d_Model_ofTriplets_236 zk_i3 ?_
  refine zq_icmp_lt (tgt := 244) d_Model_ofTriplets_237 (by decide) (fun c => ?_) (fun c => ?_)
  · have hJ := hJ.1 c
    refine zq_iconst (v := 0) d_Model_ofTriplets_244 zk_i0 ?_
    refine zr_less (L' := [some (.ref 33), some (.int x1), some (.int x2), some (.int x3), some (.int x4), none, none, none]) ⟨rfl, ⟨rfl, ⟨rfl, ⟨rfl, ⟨rfl, trivial⟩⟩⟩⟩⟩ ?_
    exact s_Model_ofTriplets_L245    hJ
  · have hJ := hJ.2 c
    refine zq_iconst (v := 1) d_Model_ofTriplets_240 zk_i1 ?_
    refine zq_goto (tgt := 245) d_Model_ofTriplets_241 (by decide) ?_
    refine zr_less (L' := [some (.ref 33), some (.int x1), some (.int x2), some (.int x3), some (.int x4), none, none, none]) ⟨rfl, ⟨rfl, ⟨rfl, ⟨rfl, ⟨rfl, trivial⟩⟩⟩⟩⟩ ?_
    exact s_Model_ofTriplets_L245    hJ
set_option maxHeartbeats 400000 in
theorem s_Model_ofTriplets_L12 {g : zk_T} {K : Int64 → zm → Prop} : ∀ (n : Nat) {x1 : Int32} {x2 : Int32} {x3 : Int32} {x4 : Int32} {x5 : Int32} {m : zm}, j_Model_ofTriplets_L12   K n x1 x2 x3 x4 x5 m → zq_V (zk_g g) ("RiichiTableModel", prog_9_method_39_code, 8, (some .long), false, zq_rm 1 0 0) 0 0 12 [some (.ref 33), some (.int x1), some (.int x2), some (.int x3), some (.int x4), some (.int x5), none, none] [] (zm_hp m) (zm_QL K) := by
  intro n
  induction n with
  | zero =>
    intro x1 x2 x3 x4 x5 m hJ
    exact False.elim hJ
  | succ n ih =>
    intro x1 x2 x3 x4 x5 m hJ
    rw [j_Model_ofTriplets_L12] at hJ
    refine zq_iload d_Model_ofTriplets_12 rfl ?_
    refine zq_iconst (v := 4) d_Model_ofTriplets_14 zk_i4 ?_
    refine zq_icmp_ge (tgt := 144) d_Model_ofTriplets_15 (by decide) (fun c => ?_) (fun c => ?_)
    · have hJ := hJ.1 c
      refine zq_aload_n d_Model_ofTriplets_144 rfl rfl ?_
      refine zq_aload_n d_Model_ofTriplets_145 rfl rfl ?_
      refine zq_aload_n d_Model_ofTriplets_146 rfl rfl ?_
      refine zr_cvI (q := 33) (as := []) (st := [.ref 33, .ref 33]) d_Model_ofTriplets_147 cc_Model_213 cv_Model_seatWind zs_Model (s_Model_seatWind  hJ) rfl ⟨Nat.le_of_ble_eq_true rfl, Nat.le_of_ble_eq_true rfl⟩ (Nat.le_of_ble_eq_true rfl) ⟨Nat.le_refl _, Nat.le_refl _⟩ rfl (fun r2 m1 hJ => ?_)
      refine zr_cvI (q := 33) (as := [.int r2]) (st := [.ref 33]) d_Model_ofTriplets_150 cc_Model_237 cv_Model_has zs_Model (s_Model_has  hJ) rfl ⟨Nat.le_of_ble_eq_true rfl, Nat.le_of_ble_eq_true rfl⟩ (Nat.le_of_ble_eq_true rfl) ⟨Nat.le_refl _, Nat.le_refl _⟩ rfl (fun r4 m3 hJ => ?_)
      refine zq_bipush (v := 10) d_Model_ofTriplets_153 zk_b10 ?_
      refine zr_cvL (q := 33) (as := [.int r4, .int 10]) (st := []) d_Model_ofTriplets_155 cc_Model_187 cv_Model_bit zs_Model (s_Model_bit  hJ) rfl ⟨Nat.le_of_ble_eq_true rfl, Nat.le_of_ble_eq_true rfl⟩ (Nat.le_of_ble_eq_true rfl) ⟨Nat.le_refl _, Nat.le_refl _⟩ rfl (fun r6 m5 hJ => ?_)
      refine zq_aload_n d_Model_ofTriplets_158 rfl rfl ?_
      refine zq_aload_n d_Model_ofTriplets_159 rfl rfl ?_
      refine zq_bipush (v := 27) d_Model_ofTriplets_160 zk_b27 ?_
      refine zq_aload_n d_Model_ofTriplets_162 rfl rfl ?_
      refine zm_getI fg_Model_216 d_Model_ofTriplets_163 zs_Model rfl ?_
      refine zq_iadd d_Model_ofTriplets_166 ?_
      refine zr_cvI (q := 33) (as := [.int (27 + (m5.1 33 6))]) (st := [.ref 33, .long r6]) d_Model_ofTriplets_167 cc_Model_237 cv_Model_has zs_Model (s_Model_has  hJ) rfl ⟨Nat.le_of_ble_eq_true rfl, Nat.le_of_ble_eq_true rfl⟩ (Nat.le_of_ble_eq_true rfl) ⟨Nat.le_refl _, Nat.le_refl _⟩ rfl (fun r8 m7 hJ => ?_)
      refine zq_bipush (v := 11) d_Model_ofTriplets_170 zk_b11 ?_
      refine zr_cvL (q := 33) (as := [.int r8, .int 11]) (st := [.long r6]) d_Model_ofTriplets_172 cc_Model_187 cv_Model_bit zs_Model (s_Model_bit  hJ) rfl ⟨Nat.le_of_ble_eq_true rfl, Nat.le_of_ble_eq_true rfl⟩ (Nat.le_of_ble_eq_true rfl) ⟨Nat.le_refl _, Nat.le_refl _⟩ rfl (fun r10 m9 hJ => ?_)
      refine zq_lor d_Model_ofTriplets_175 ?_
      refine zq_aload_n d_Model_ofTriplets_176 rfl rfl ?_
      refine zq_aload_n d_Model_ofTriplets_177 rfl rfl ?_
      refine zq_bipush (v := 31) d_Model_ofTriplets_178 zk_b31 ?_
      refine zr_cvI (q := 33) (as := [.int 31]) (st := [.ref 33, .long (r6 ||| r10)]) d_Model_ofTriplets_180 cc_Model_237 cv_Model_has zs_Model (s_Model_has  hJ) rfl ⟨Nat.le_of_ble_eq_true rfl, Nat.le_of_ble_eq_true rfl⟩ (Nat.le_of_ble_eq_true rfl) ⟨Nat.le_refl _, Nat.le_refl _⟩ rfl (fun r12 m11 hJ => ?_)
      refine zq_bipush (v := 12) d_Model_ofTriplets_183 zk_b12 ?_
      refine zr_cvL (q := 33) (as := [.int r12, .int 12]) (st := [.long (r6 ||| r10)]) d_Model_ofTriplets_185 cc_Model_187 cv_Model_bit zs_Model (s_Model_bit  hJ) rfl ⟨Nat.le_of_ble_eq_true rfl, Nat.le_of_ble_eq_true rfl⟩ (Nat.le_of_ble_eq_true rfl) ⟨Nat.le_refl _, Nat.le_refl _⟩ rfl (fun r14 m13 hJ => ?_)
      refine zq_lor d_Model_ofTriplets_188 ?_
      refine zq_aload_n d_Model_ofTriplets_189 rfl rfl ?_
      refine zq_aload_n d_Model_ofTriplets_190 rfl rfl ?_
      refine zq_bipush (v := 32) d_Model_ofTriplets_191 zk_b32 ?_
      refine zr_cvI (q := 33) (as := [.int 32]) (st := [.ref 33, .long ((r6 ||| r10) ||| r14)]) d_Model_ofTriplets_193 cc_Model_237 cv_Model_has zs_Model (s_Model_has  hJ) rfl ⟨Nat.le_of_ble_eq_true rfl, Nat.le_of_ble_eq_true rfl⟩ (Nat.le_of_ble_eq_true rfl) ⟨Nat.le_refl _, Nat.le_refl _⟩ rfl (fun r16 m15 hJ => ?_)
      refine zq_bipush (v := 13) d_Model_ofTriplets_196 zk_b13 ?_
      refine zr_cvL (q := 33) (as := [.int r16, .int 13]) (st := [.long ((r6 ||| r10) ||| r14)]) d_Model_ofTriplets_198 cc_Model_187 cv_Model_bit zs_Model (s_Model_bit  hJ) rfl ⟨Nat.le_of_ble_eq_true rfl, Nat.le_of_ble_eq_true rfl⟩ (Nat.le_of_ble_eq_true rfl) ⟨Nat.le_refl _, Nat.le_refl _⟩ rfl (fun r18 m17 hJ => ?_)
      refine zq_lor d_Model_ofTriplets_201 ?_
      refine zq_aload_n d_Model_ofTriplets_202 rfl rfl ?_
      refine zq_aload_n d_Model_ofTriplets_203 rfl rfl ?_
      refine zq_bipush (v := 33) d_Model_ofTriplets_204 zk_b33 ?_
      refine zr_cvI (q := 33) (as := [.int 33]) (st := [.ref 33, .long (((r6 ||| r10) ||| r14) ||| r18)]) d_Model_ofTriplets_206 cc_Model_237 cv_Model_has zs_Model (s_Model_has  hJ) rfl ⟨Nat.le_of_ble_eq_true rfl, Nat.le_of_ble_eq_true rfl⟩ (Nat.le_of_ble_eq_true rfl) ⟨Nat.le_refl _, Nat.le_refl _⟩ rfl (fun r20 m19 hJ => ?_)
      refine zq_bipush (v := 14) d_Model_ofTriplets_209 zk_b14 ?_
      refine zr_cvL (q := 33) (as := [.int r20, .int 14]) (st := [.long (((r6 ||| r10) ||| r14) ||| r18)]) d_Model_ofTriplets_211 cc_Model_187 cv_Model_bit zs_Model (s_Model_bit  hJ) rfl ⟨Nat.le_of_ble_eq_true rfl, Nat.le_of_ble_eq_true rfl⟩ (Nat.le_of_ble_eq_true rfl) ⟨Nat.le_refl _, Nat.le_refl _⟩ rfl (fun r22 m21 hJ => ?_)
      refine zq_lor d_Model_ofTriplets_214 ?_
      refine zq_aload_n d_Model_ofTriplets_215 rfl rfl ?_
      refine zq_aload_n d_Model_ofTriplets_216 rfl rfl ?_
      refine zr_cvI (q := 33) (as := []) (st := [.ref 33, .long ((((r6 ||| r10) ||| r14) ||| r18) ||| r22)]) d_Model_ofTriplets_217 cc_Model_219 cv_Model_runs zs_Model (s_Model_runs  hJ) rfl ⟨Nat.le_of_ble_eq_true rfl, Nat.le_of_ble_eq_true rfl⟩ (Nat.le_of_ble_eq_true rfl) ⟨Nat.le_refl _, Nat.le_refl _⟩ rfl (fun r24 m23 hJ => ?_)
      refine zq_if_ne (tgt := 227) d_Model_ofTriplets_220 (by decide) (fun c => ?_) (fun c => ?_)
      · have hJ := hJ.1 c
        refine zq_iconst (v := 0) d_Model_ofTriplets_227 zk_i0 ?_
        refine zr_less (L' := [some (.ref 33), some (.int x1), some (.int x2), some (.int x3), some (.int x4), none, none, none]) ⟨rfl, ⟨rfl, ⟨rfl, ⟨rfl, ⟨rfl, trivial⟩⟩⟩⟩⟩ ?_
        exact s_Model_ofTriplets_L228    hJ
      · have hJ := hJ.2 c
        refine zq_iconst (v := 1) d_Model_ofTriplets_223 zk_i1 ?_
        refine zq_goto (tgt := 228) d_Model_ofTriplets_224 (by decide) ?_
        refine zr_less (L' := [some (.ref 33), some (.int x1), some (.int x2), some (.int x3), some (.int x4), none, none, none]) ⟨rfl, ⟨rfl, ⟨rfl, ⟨rfl, ⟨rfl, trivial⟩⟩⟩⟩⟩ ?_
        exact s_Model_ofTriplets_L228    hJ
    · have hJ := hJ.2 c
      refine zq_iload_n d_Model_ofTriplets_18 rfl rfl ?_
      refine zq_aload_n d_Model_ofTriplets_19 rfl rfl ?_
      refine zm_getR fg_Model_72 d_Model_ofTriplets_20 zs_Model rfl ?_
      refine zq_iload d_Model_ofTriplets_23 rfl ?_
      obtain ⟨hb, hJ⟩ := hJ
      refine zm_ald d_Model_ofTriplets_25 (rfl : zm_sh[54]? = some (.inl (0, 8, .inl (fun _ => 0)))) hb ?_
      refine zq_if_le (tgt := 42) d_Model_ofTriplets_26 (by decide) (fun c => ?_) (fun c => ?_)
      · have hJ := hJ.1 c
        refine zr_less (L' := [some (.ref 33), none, some (.int x2), some (.int x3), some (.int x4), some (.int x5), none, none]) ⟨rfl, ⟨rfl, ⟨rfl, ⟨rfl, ⟨rfl, trivial⟩⟩⟩⟩⟩ ?_
        exact s_Model_ofTriplets_L42  ih  hJ
      · have hJ := hJ.2 c
        refine zq_aload_n d_Model_ofTriplets_29 rfl rfl ?_
        refine zq_iload d_Model_ofTriplets_30 rfl ?_
        refine zr_cvI (q := 33) (as := [.int x5]) (st := [.int x1]) d_Model_ofTriplets_32 cc_Model_234 cv_Model_isClosedSet zs_Model (s_Model_isClosedSet  hJ) rfl ⟨Nat.le_of_ble_eq_true rfl, Nat.le_of_ble_eq_true rfl⟩ (Nat.le_of_ble_eq_true rfl) ⟨Nat.le_refl _, Nat.le_refl _⟩ rfl (fun r26 m25 hJ => ?_)
        refine zq_if_eq (tgt := 42) d_Model_ofTriplets_35 (by decide) (fun c => ?_) (fun c => ?_)
        · have hJ := hJ.1 c
          refine zr_less (L' := [some (.ref 33), none, some (.int x2), some (.int x3), some (.int x4), some (.int x5), none, none]) ⟨rfl, ⟨rfl, ⟨rfl, ⟨rfl, ⟨rfl, trivial⟩⟩⟩⟩⟩ ?_
          exact s_Model_ofTriplets_L42  ih  hJ
        · have hJ := hJ.2 c
          refine zq_iconst (v := 1) d_Model_ofTriplets_38 zk_i1 ?_
          refine zq_goto (tgt := 43) d_Model_ofTriplets_39 (by decide) ?_
          refine zr_less (L' := [some (.ref 33), none, some (.int x2), some (.int x3), some (.int x4), some (.int x5), none, none]) ⟨rfl, ⟨rfl, ⟨rfl, ⟨rfl, ⟨rfl, trivial⟩⟩⟩⟩⟩ ?_
          exact s_Model_ofTriplets_L43  ih  hJ
set_option maxHeartbeats 400000 in
theorem s_Model_ofTriplets {g : zk_T} {K : Int64 → zm → Prop} {m : zm} (hJ : j_Model_ofTriplets  m K) : zq_Mt (zk_g g) y_Model_ofTriplets 1 0 0 [.ref 33] (zm_hp m) (zm_QL K) := by
  unfold j_Model_ofTriplets at hJ
  refine zq_meth (ini := false) rfl (fun h => by cases h) (Nat.le_of_ble_eq_true rfl) ?_
  refine zr_L (F := ("RiichiTableModel", prog_9_method_39_code, 8, (some .long), false, zq_rm 1 0 0)) (L' := [some (.ref 33), none, none, none, none, none, none, none]) rfl ?_
  refine zq_iconst (v := 0) d_Model_ofTriplets_0 zk_i0 ?_
  refine zr_istore_n (L' := [some (.ref 33), some (.int 0), none, none, none, none, none, none]) d_Model_ofTriplets_1 rfl (Nat.le_of_ble_eq_true rfl) rfl ?_
  refine zq_iconst (v := 0) d_Model_ofTriplets_2 zk_i0 ?_
  refine zr_istore_n (L' := [some (.ref 33), some (.int 0), some (.int 0), none, none, none, none, none]) d_Model_ofTriplets_3 rfl (Nat.le_of_ble_eq_true rfl) rfl ?_
  refine zq_iconst (v := 0) d_Model_ofTriplets_4 zk_i0 ?_
  refine zr_istore_n (L' := [some (.ref 33), some (.int 0), some (.int 0), some (.int 0), none, none, none, none]) d_Model_ofTriplets_5 rfl (Nat.le_of_ble_eq_true rfl) rfl ?_
  refine zq_iconst (v := 0) d_Model_ofTriplets_6 zk_i0 ?_
  refine zr_istore (L' := [some (.ref 33), some (.int 0), some (.int 0), some (.int 0), some (.int 0), none, none, none]) d_Model_ofTriplets_7 (Nat.le_of_ble_eq_true rfl) rfl ?_
  refine zq_iconst (v := 0) d_Model_ofTriplets_9 zk_i0 ?_
  refine zr_istore (L' := [some (.ref 33), some (.int 0), some (.int 0), some (.int 0), some (.int 0), some (.int 0), none, none]) d_Model_ofTriplets_10 (Nat.le_of_ble_eq_true rfl) rfl ?_
  refine zr_less (L' := [some (.ref 33), some (.int 0), some (.int 0), some (.int 0), some (.int 0), some (.int 0), none, none]) ⟨rfl, ⟨rfl, ⟨rfl, ⟨rfl, ⟨rfl, ⟨rfl, trivial⟩⟩⟩⟩⟩⟩ ?_
  obtain ⟨n12, hJ⟩ := hJ
  exact s_Model_ofTriplets_L12   n12  hJ
set_option maxHeartbeats 400000 in
theorem s_Model_fuOfSets_L301 {g : zk_T} {a1 : Int64} {R219 : Int32 → Int32 → Int32 → zm → Prop} {K : Int32 → zm → Prop} (hR219 : ∀ {x3 : Int32} {x4 : Int32} {x5 : Int32} {m : zm}, R219 x3 x4 x5 m → zq_V (zk_g g) ("RiichiTableModel", prog_9_method_40_code, 7, (some .int), false, zq_rm 1 0 0) 0 0 219 [some (.ref 33), some (.long a1), none, some (.int x3), some (.int x4), some (.int x5), none] [] (zm_hp m) (zm_QI K)) {x3 : Int32} {x5 : Int32} {t0 : Int32} {t1 : Int32} {m : zm} (hJ : j_Model_fuOfSets_L301 a1 R219 K x3 x5 t0 t1 m) : zq_V (zk_g g) ("RiichiTableModel", prog_9_method_40_code, 7, (some .int), false, zq_rm 1 0 0) 0 0 301 [some (.ref 33), some (.long a1), none, some (.int x3), none, some (.int x5), none] [.int t0, .int t1] (zm_hp m) (zm_QI K) := by
  unfold j_Model_fuOfSets_L301 at hJ
  refine zq_iadd d_Model_fuOfSets_301 ?_
  refine zr_topi (fun y17 hy17 => ?_)
  have hJ := hJ y17 hy17
  refine zr_istore (L' := [some (.ref 33), some (.long a1), none, some (.int x3), some (.int y17), some (.int x5), none]) d_Model_fuOfSets_302 (Nat.le_of_ble_eq_true rfl) rfl ?_
  refine zr_iinc (d' := 1) d_Model_fuOfSets_304 zk_i1 rfl (Nat.le_of_ble_eq_true rfl) (fun y18 hy18 => ?_)
  have hJ := hJ y18 hy18
  refine zr_L (L' := [some (.ref 33), some (.long a1), none, some (.int x3), some (.int y17), some (.int y18), none]) rfl ?_
  refine zq_goto (tgt := 219) d_Model_fuOfSets_307 (by decide) ?_
  refine zr_less (L' := [some (.ref 33), some (.long a1), none, some (.int x3), some (.int y17), some (.int y18), none]) ⟨rfl, ⟨rfl, ⟨rfl, ⟨rfl, ⟨rfl, trivial⟩⟩⟩⟩⟩ ?_
  exact hR219  hJ
set_option maxHeartbeats 400000 in
theorem s_Model_fuOfSets_L263 {g : zk_T} {a1 : Int64} {R219 : Int32 → Int32 → Int32 → zm → Prop} {K : Int32 → zm → Prop} (hR219 : ∀ {x3 : Int32} {x4 : Int32} {x5 : Int32} {m : zm}, R219 x3 x4 x5 m → zq_V (zk_g g) ("RiichiTableModel", prog_9_method_40_code, 7, (some .int), false, zq_rm 1 0 0) 0 0 219 [some (.ref 33), some (.long a1), none, some (.int x3), some (.int x4), some (.int x5), none] [] (zm_hp m) (zm_QI K)) {x3 : Int32} {x4 : Int32} {x5 : Int32} {t0 : Int32} {m : zm} (hJ : j_Model_fuOfSets_L263 a1 R219 K x3 x4 x5 t0 m) : zq_V (zk_g g) ("RiichiTableModel", prog_9_method_40_code, 7, (some .int), false, zq_rm 1 0 0) 0 0 263 [some (.ref 33), some (.long a1), none, some (.int x3), some (.int x4), some (.int x5), none] [.int t0] (zm_hp m) (zm_QI K) := by
  unfold j_Model_fuOfSets_L263 at hJ
  refine zr_istore (L' := [some (.ref 33), some (.long a1), none, some (.int x3), some (.int x4), some (.int x5), some (.int t0)]) d_Model_fuOfSets_263 (Nat.le_of_ble_eq_true rfl) rfl ?_
  refine zq_iload d_Model_fuOfSets_265 rfl ?_
  refine zq_aload_n d_Model_fuOfSets_267 rfl rfl ?_
  refine zm_getR fg_Model_72 d_Model_fuOfSets_268 zs_Model rfl ?_
  refine zq_iload d_Model_fuOfSets_271 rfl ?_
  obtain ⟨hb, hJ⟩ := hJ
  refine zm_ald d_Model_fuOfSets_273 (rfl : zm_sh[54]? = some (.inl (0, 8, .inl (fun _ => 0)))) hb ?_
  refine zq_if_ne (tgt := 281) d_Model_fuOfSets_274 (by decide) (fun c => ?_) (fun c => ?_)
  · have hJ := hJ.1 c
    refine zq_aload_n d_Model_fuOfSets_281 rfl rfl ?_
    refine zm_getR fg_Model_72 d_Model_fuOfSets_282 zs_Model rfl ?_
    refine zq_iload d_Model_fuOfSets_285 rfl ?_
    obtain ⟨hb, hJ⟩ := hJ
    refine zm_ald d_Model_fuOfSets_287 (rfl : zm_sh[54]? = some (.inl (0, 8, .inl (fun _ => 0)))) hb ?_
    refine zq_iconst (v := 2) d_Model_fuOfSets_288 zk_i2 ?_
    refine zq_icmp_ne (tgt := 299) d_Model_fuOfSets_289 (by decide) (fun c => ?_) (fun c => ?_)
    · have hJ := hJ.1 c
      refine zq_iload d_Model_fuOfSets_299 rfl ?_
      refine zr_less (L' := [some (.ref 33), some (.long a1), none, some (.int x3), none, some (.int x5), none]) ⟨rfl, ⟨rfl, ⟨rfl, ⟨rfl, trivial⟩⟩⟩⟩ ?_
      exact s_Model_fuOfSets_L301  hR219  hJ
    · have hJ := hJ.2 c
      refine zq_iconst (v := 4) d_Model_fuOfSets_292 zk_i4 ?_
      refine zq_iload d_Model_fuOfSets_293 rfl ?_
      refine zq_imul d_Model_fuOfSets_295 ?_
      refine zq_goto (tgt := 301) d_Model_fuOfSets_296 (by decide) ?_
      refine zr_less (L' := [some (.ref 33), some (.long a1), none, some (.int x3), none, some (.int x5), none]) ⟨rfl, ⟨rfl, ⟨rfl, ⟨rfl, trivial⟩⟩⟩⟩ ?_
      exact s_Model_fuOfSets_L301  hR219  hJ
  · have hJ := hJ.2 c
    refine zq_iconst (v := 0) d_Model_fuOfSets_277 zk_i0 ?_
    refine zq_goto (tgt := 301) d_Model_fuOfSets_278 (by decide) ?_
    refine zr_less (L' := [some (.ref 33), some (.long a1), none, some (.int x3), none, some (.int x5), none]) ⟨rfl, ⟨rfl, ⟨rfl, ⟨rfl, trivial⟩⟩⟩⟩ ?_
    exact s_Model_fuOfSets_L301  hR219  hJ
set_option maxHeartbeats 400000 in
theorem s_Model_fuOfSets_L239 {g : zk_T} {a1 : Int64} {R219 : Int32 → Int32 → Int32 → zm → Prop} {K : Int32 → zm → Prop} (hR219 : ∀ {x3 : Int32} {x4 : Int32} {x5 : Int32} {m : zm}, R219 x3 x4 x5 m → zq_V (zk_g g) ("RiichiTableModel", prog_9_method_40_code, 7, (some .int), false, zq_rm 1 0 0) 0 0 219 [some (.ref 33), some (.long a1), none, some (.int x3), some (.int x4), some (.int x5), none] [] (zm_hp m) (zm_QI K)) {x3 : Int32} {x4 : Int32} {x5 : Int32} {t0 : Int32} {m : zm} (hJ : j_Model_fuOfSets_L239 a1 R219 K x3 x4 x5 t0 m) : zq_V (zk_g g) ("RiichiTableModel", prog_9_method_40_code, 7, (some .int), false, zq_rm 1 0 0) 0 0 239 [some (.ref 33), some (.long a1), none, some (.int x3), some (.int x4), some (.int x5), none] [.int t0] (zm_hp m) (zm_QI K) := by
  unfold j_Model_fuOfSets_L239 at hJ
  refine zr_istore (L' := [some (.ref 33), some (.long a1), none, some (.int x3), some (.int x4), some (.int x5), some (.int t0)]) d_Model_fuOfSets_239 (Nat.le_of_ble_eq_true rfl) rfl ?_
  refine zq_aload_n d_Model_fuOfSets_241 rfl rfl ?_
  refine zm_getR fg_Model_69 d_Model_fuOfSets_242 zs_Model rfl ?_
  refine zq_iload d_Model_fuOfSets_245 rfl ?_
  obtain ⟨hb, hJ⟩ := hJ
  refine zm_ald d_Model_fuOfSets_247 (rfl : zm_sh[53]? = some (.inl (0, 8, .inl (fun _ => 0)))) hb ?_
  refine zr_csI (as := [.int (m.1 53 (Int32.toNatClampNeg x5))]) (st := []) d_Model_fuOfSets_248 cc_Model_133 cs_Model_outer (s_Model_outer  hJ) rfl ⟨Nat.le_of_ble_eq_true rfl, Nat.le_of_ble_eq_true rfl⟩ (Nat.le_of_ble_eq_true rfl) ⟨Nat.le_refl _, Nat.le_refl _⟩ rfl (fun r16 m15 hJ => ?_)
  refine zq_if_eq (tgt := 261) d_Model_fuOfSets_251 (by decide) (fun c => ?_) (fun c => ?_)
  · have hJ := hJ.1 c
    refine zq_iload d_Model_fuOfSets_261 rfl ?_
    refine zr_less (L' := [some (.ref 33), some (.long a1), none, some (.int x3), some (.int x4), some (.int x5), none]) ⟨rfl, ⟨rfl, ⟨rfl, ⟨rfl, ⟨rfl, trivial⟩⟩⟩⟩⟩ ?_
    exact s_Model_fuOfSets_L263  hR219  hJ
  · have hJ := hJ.2 c
    refine zq_iconst (v := 2) d_Model_fuOfSets_254 zk_i2 ?_
    refine zq_iload d_Model_fuOfSets_255 rfl ?_
    refine zq_imul d_Model_fuOfSets_257 ?_
    refine zq_goto (tgt := 263) d_Model_fuOfSets_258 (by decide) ?_
    refine zr_less (L' := [some (.ref 33), some (.long a1), none, some (.int x3), some (.int x4), some (.int x5), none]) ⟨rfl, ⟨rfl, ⟨rfl, ⟨rfl, ⟨rfl, trivial⟩⟩⟩⟩⟩ ?_
    exact s_Model_fuOfSets_L263  hR219  hJ
set_option maxHeartbeats 400000 in
theorem s_Model_fuOfSets_L341 {g : zk_T} {a1 : Int64} {K : Int32 → zm → Prop} {t0 : Int32} {m : zm} (hJ : j_Model_fuOfSets_L341 a1  K t0 m) : zq_V (zk_g g) ("RiichiTableModel", prog_9_method_40_code, 7, (some .int), false, zq_rm 1 0 0) 0 0 341 [some (.ref 33), some (.long a1), none, none, none, none, none] [.int t0] (zm_hp m) (zm_QI K) := by
  unfold j_Model_fuOfSets_L341 at hJ
  exact zq_iret d_Model_fuOfSets_341 rfl rfl (Nat.le_refl _) (Nat.le_refl _) ⟨_, _, rfl, rfl, hJ⟩
set_option maxHeartbeats 400000 in
theorem s_Model_fuOfSets_L339 {g : zk_T} {a1 : Int64} {K : Int32 → zm → Prop} {x4 : Int32} {m : zm} (hJ : j_Model_fuOfSets_L339 a1  K x4 m) : zq_V (zk_g g) ("RiichiTableModel", prog_9_method_40_code, 7, (some .int), false, zq_rm 1 0 0) 0 0 339 [some (.ref 33), some (.long a1), none, none, some (.int x4), none, none] [] (zm_hp m) (zm_QI K) := by
  unfold j_Model_fuOfSets_L339 at hJ
  refine zq_iload d_Model_fuOfSets_339 rfl ?_
  refine zr_less (L' := [some (.ref 33), some (.long a1), none, none, none, none, none]) ⟨rfl, ⟨rfl, trivial⟩⟩ ?_
  exact s_Model_fuOfSets_L341    hJ
set_option maxHeartbeats 400000 in
theorem s_Model_fuOfSets_L219 {g : zk_T} {a1 : Int64} {K : Int32 → zm → Prop} : ∀ (n : Nat) {x3 : Int32} {x4 : Int32} {x5 : Int32} {m : zm}, j_Model_fuOfSets_L219 a1  K n x3 x4 x5 m → zq_V (zk_g g) ("RiichiTableModel", prog_9_method_40_code, 7, (some .int), false, zq_rm 1 0 0) 0 0 219 [some (.ref 33), some (.long a1), none, some (.int x3), some (.int x4), some (.int x5), none] [] (zm_hp m) (zm_QI K) := by
  intro n
  induction n with
  | zero =>
    intro x3 x4 x5 m hJ
    exact False.elim hJ
  | succ n ih =>
    intro x3 x4 x5 m hJ
    rw [j_Model_fuOfSets_L219] at hJ
    refine zq_iload d_Model_fuOfSets_219 rfl ?_
    refine zq_iconst (v := 4) d_Model_fuOfSets_221 zk_i4 ?_
    refine zq_icmp_ge (tgt := 310) d_Model_fuOfSets_222 (by decide) (fun c => ?_) (fun c => ?_)
    · have hJ := hJ.1 c
      refine zq_iload d_Model_fuOfSets_310 rfl ?_
      refine zq_bipush (v := 9) d_Model_fuOfSets_312 zk_b9 ?_
      refine zq_iadd d_Model_fuOfSets_314 ?_
      refine zq_bipush (v := 10) d_Model_fuOfSets_315 zk_b10 ?_
      refine zq_idiv d_Model_fuOfSets_317 (by decide) ?_
      refine zq_bipush (v := 10) d_Model_fuOfSets_318 zk_b10 ?_
      refine zq_imul d_Model_fuOfSets_320 ?_
      refine zr_topi (fun y12 hy12 => ?_)
      have hJ := hJ y12 hy12
      refine zr_istore (L' := [some (.ref 33), some (.long a1), none, some (.int x3), some (.int y12), some (.int x5), none]) d_Model_fuOfSets_321 (Nat.le_of_ble_eq_true rfl) rfl ?_
      refine zq_iload d_Model_fuOfSets_323 rfl ?_
      refine zq_bipush (v := 20) d_Model_fuOfSets_325 zk_b20 ?_
      refine zq_icmp_ne (tgt := 339) d_Model_fuOfSets_327 (by decide) (fun c => ?_) (fun c => ?_)
      · have hJ := hJ.1 c
        refine zr_less (L' := [some (.ref 33), some (.long a1), none, none, some (.int y12), none, none]) ⟨rfl, ⟨rfl, ⟨rfl, trivial⟩⟩⟩ ?_
        exact s_Model_fuOfSets_L339    hJ
      · have hJ := hJ.2 c
        refine zq_iload_n d_Model_fuOfSets_330 rfl rfl ?_
        refine zq_if_ne (tgt := 339) d_Model_fuOfSets_331 (by decide) (fun c => ?_) (fun c => ?_)
        · have hJ := hJ.1 c
          refine zr_less (L' := [some (.ref 33), some (.long a1), none, none, some (.int y12), none, none]) ⟨rfl, ⟨rfl, ⟨rfl, trivial⟩⟩⟩ ?_
          exact s_Model_fuOfSets_L339    hJ
        · have hJ := hJ.2 c
          refine zq_bipush (v := 30) d_Model_fuOfSets_334 zk_b30 ?_
          refine zq_goto (tgt := 341) d_Model_fuOfSets_336 (by decide) ?_
          refine zr_less (L' := [some (.ref 33), some (.long a1), none, none, none, none, none]) ⟨rfl, ⟨rfl, trivial⟩⟩ ?_
          exact s_Model_fuOfSets_L341    hJ
    · have hJ := hJ.2 c
      refine zq_aload_n d_Model_fuOfSets_225 rfl rfl ?_
      refine zq_iload d_Model_fuOfSets_226 rfl ?_
      refine zr_cvI (q := 33) (as := [.int x5]) (st := []) d_Model_fuOfSets_228 cc_Model_234 cv_Model_isClosedSet zs_Model (s_Model_isClosedSet  hJ) rfl ⟨Nat.le_of_ble_eq_true rfl, Nat.le_of_ble_eq_true rfl⟩ (Nat.le_of_ble_eq_true rfl) ⟨Nat.le_refl _, Nat.le_refl _⟩ rfl (fun r14 m13 hJ => ?_)
      refine zq_if_eq (tgt := 238) d_Model_fuOfSets_231 (by decide) (fun c => ?_) (fun c => ?_)
      · have hJ := hJ.1 c
        refine zq_iconst (v := 2) d_Model_fuOfSets_238 zk_i2 ?_
        refine zr_less (L' := [some (.ref 33), some (.long a1), none, some (.int x3), some (.int x4), some (.int x5), none]) ⟨rfl, ⟨rfl, ⟨rfl, ⟨rfl, ⟨rfl, trivial⟩⟩⟩⟩⟩ ?_
        exact s_Model_fuOfSets_L239  ih  hJ
      · have hJ := hJ.2 c
        refine zq_iconst (v := 4) d_Model_fuOfSets_234 zk_i4 ?_
        refine zq_goto (tgt := 239) d_Model_fuOfSets_235 (by decide) ?_
        refine zr_less (L' := [some (.ref 33), some (.long a1), none, some (.int x3), some (.int x4), some (.int x5), none]) ⟨rfl, ⟨rfl, ⟨rfl, ⟨rfl, ⟨rfl, trivial⟩⟩⟩⟩⟩ ?_
        exact s_Model_fuOfSets_L239  ih  hJ
set_option maxHeartbeats 400000 in
theorem s_Model_fuOfSets_L216 {g : zk_T} {a1 : Int64} {K : Int32 → zm → Prop} {x3 : Int32} {x4 : Int32} {m : zm} (hJ : j_Model_fuOfSets_L216 a1  K x3 x4 m) : zq_V (zk_g g) ("RiichiTableModel", prog_9_method_40_code, 7, (some .int), false, zq_rm 1 0 0) 0 0 216 [some (.ref 33), some (.long a1), none, some (.int x3), some (.int x4), none, none] [] (zm_hp m) (zm_QI K) := by
  unfold j_Model_fuOfSets_L216 at hJ
  refine zq_iconst (v := 0) d_Model_fuOfSets_216 zk_i0 ?_
  refine zr_istore (L' := [some (.ref 33), some (.long a1), none, some (.int x3), some (.int x4), some (.int 0), none]) d_Model_fuOfSets_217 (Nat.le_of_ble_eq_true rfl) rfl ?_
  refine zr_less (L' := [some (.ref 33), some (.long a1), none, some (.int x3), some (.int x4), some (.int 0), none]) ⟨rfl, ⟨rfl, ⟨rfl, ⟨rfl, ⟨rfl, trivial⟩⟩⟩⟩⟩ ?_
  obtain ⟨n219, hJ⟩ := hJ
  exact s_Model_fuOfSets_L219   n219  hJ
set_option maxHeartbeats 400000 in
theorem s_Model_fuOfSets_L213 {g : zk_T} {a1 : Int64} {K : Int32 → zm → Prop} {x3 : Int32} {t0 : Int32} {t1 : Int32} {m : zm} (hJ : j_Model_fuOfSets_L213 a1  K x3 t0 t1 m) : zq_V (zk_g g) ("RiichiTableModel", prog_9_method_40_code, 7, (some .int), false, zq_rm 1 0 0) 0 0 213 [some (.ref 33), some (.long a1), none, some (.int x3), none, none, none] [.int t0, .int t1] (zm_hp m) (zm_QI K) := by
  unfold j_Model_fuOfSets_L213 at hJ
  refine zq_iadd d_Model_fuOfSets_213 ?_
  refine zr_topi (fun y11 hy11 => ?_)
  have hJ := hJ y11 hy11
  refine zr_istore (L' := [some (.ref 33), some (.long a1), none, some (.int x3), some (.int y11), none, none]) d_Model_fuOfSets_214 (Nat.le_of_ble_eq_true rfl) rfl ?_
  refine zr_less (L' := [some (.ref 33), some (.long a1), none, some (.int x3), some (.int y11), none, none]) ⟨rfl, ⟨rfl, ⟨rfl, ⟨rfl, trivial⟩⟩⟩⟩ ?_
  exact s_Model_fuOfSets_L216    hJ
set_option maxHeartbeats 400000 in
theorem s_Model_fuOfSets_L208 {g : zk_T} {a1 : Int64} {K : Int32 → zm → Prop} {x3 : Int32} {t0 : Int32} {m : zm} (hJ : j_Model_fuOfSets_L208 a1  K x3 t0 m) : zq_V (zk_g g) ("RiichiTableModel", prog_9_method_40_code, 7, (some .int), false, zq_rm 1 0 0) 0 0 208 [some (.ref 33), some (.long a1), none, some (.int x3), none, none, none] [.int t0] (zm_hp m) (zm_QI K) := by
  unfold j_Model_fuOfSets_L208 at hJ
  refine zq_iconst (v := 2) d_Model_fuOfSets_208 zk_i2 ?_
  refine zq_goto (tgt := 213) d_Model_fuOfSets_209 (by decide) ?_
  refine zr_less (L' := [some (.ref 33), some (.long a1), none, some (.int x3), none, none, none]) ⟨rfl, ⟨rfl, ⟨rfl, trivial⟩⟩⟩ ?_
  exact s_Model_fuOfSets_L213    hJ
set_option maxHeartbeats 400000 in
theorem s_Model_fuOfSets_L212 {g : zk_T} {a1 : Int64} {K : Int32 → zm → Prop} {x3 : Int32} {t0 : Int32} {m : zm} (hJ : j_Model_fuOfSets_L212 a1  K x3 t0 m) : zq_V (zk_g g) ("RiichiTableModel", prog_9_method_40_code, 7, (some .int), false, zq_rm 1 0 0) 0 0 212 [some (.ref 33), some (.long a1), none, some (.int x3), none, none, none] [.int t0] (zm_hp m) (zm_QI K) := by
  unfold j_Model_fuOfSets_L212 at hJ
  refine zq_iconst (v := 0) d_Model_fuOfSets_212 zk_i0 ?_
  refine zr_less (L' := [some (.ref 33), some (.long a1), none, some (.int x3), none, none, none]) ⟨rfl, ⟨rfl, ⟨rfl, trivial⟩⟩⟩ ?_
  exact s_Model_fuOfSets_L213    hJ
set_option maxHeartbeats 400000 in
theorem s_Model_fuOfSets_L196 {g : zk_T} {a1 : Int64} {K : Int32 → zm → Prop} {x3 : Int32} {x5 : Int32} {x6 : Int32} {t0 : Int32} {m : zm} (hJ : j_Model_fuOfSets_L196 a1  K x3 x5 x6 t0 m) : zq_V (zk_g g) ("RiichiTableModel", prog_9_method_40_code, 7, (some .int), false, zq_rm 1 0 0) 0 0 196 [some (.ref 33), some (.long a1), none, some (.int x3), none, some (.int x5), some (.int x6)] [.int t0] (zm_hp m) (zm_QI K) := by
  unfold j_Model_fuOfSets_L196 at hJ
  refine zq_iload d_Model_fuOfSets_196 rfl ?_
  refine zq_if_ne (tgt := 212) d_Model_fuOfSets_198 (by decide) (fun c => ?_) (fun c => ?_)
  · have hJ := hJ.1 c
    refine zr_less (L' := [some (.ref 33), some (.long a1), none, some (.int x3), none, none, none]) ⟨rfl, ⟨rfl, ⟨rfl, trivial⟩⟩⟩ ?_
    exact s_Model_fuOfSets_L212    hJ
  · have hJ := hJ.2 c
    refine zq_iload d_Model_fuOfSets_201 rfl ?_
    refine zq_bipush (v := 7) d_Model_fuOfSets_203 zk_b7 ?_
    refine zq_icmp_ne (tgt := 212) d_Model_fuOfSets_205 (by decide) (fun c => ?_) (fun c => ?_)
    · have hJ := hJ.1 c
      refine zr_less (L' := [some (.ref 33), some (.long a1), none, some (.int x3), none, none, none]) ⟨rfl, ⟨rfl, ⟨rfl, trivial⟩⟩⟩ ?_
      exact s_Model_fuOfSets_L212    hJ
    · have hJ := hJ.2 c
      refine zr_less (L' := [some (.ref 33), some (.long a1), none, some (.int x3), none, none, none]) ⟨rfl, ⟨rfl, ⟨rfl, trivial⟩⟩⟩ ?_
      exact s_Model_fuOfSets_L208    hJ
set_option maxHeartbeats 400000 in
theorem s_Model_fuOfSets_L117 {g : zk_T} {a1 : Int64} {K : Int32 → zm → Prop} {x3 : Int32} {t0 : Int32} {t1 : Int32} {t2 : Int32} {m : zm} (hJ : j_Model_fuOfSets_L117 a1  K x3 t0 t1 t2 m) : zq_V (zk_g g) ("RiichiTableModel", prog_9_method_40_code, 7, (some .int), false, zq_rm 1 0 0) 0 0 117 [some (.ref 33), some (.long a1), none, some (.int x3), none, none, none] [.int t0, .int t1, .int t2] (zm_hp m) (zm_QI K) := by
  unfold j_Model_fuOfSets_L117 at hJ
  refine zq_iadd d_Model_fuOfSets_117 ?_
  refine zq_iadd d_Model_fuOfSets_118 ?_
  refine zr_topi (fun y6 hy6 => ?_)
  have hJ := hJ y6 hy6
  refine zr_istore (L' := [some (.ref 33), some (.long a1), none, some (.int x3), some (.int y6), none, none]) d_Model_fuOfSets_119 (Nat.le_of_ble_eq_true rfl) rfl ?_
  refine zq_aload_n d_Model_fuOfSets_121 rfl rfl ?_
  refine zm_getI fg_Model_210 d_Model_fuOfSets_122 zs_Model rfl ?_
  refine zq_if_ge (tgt := 134) d_Model_fuOfSets_125 (by decide) (fun c => ?_) (fun c => ?_)
  · have hJ := hJ.1 c
    refine zq_aload_n d_Model_fuOfSets_134 rfl rfl ?_
    refine zm_getR fg_Model_72 d_Model_fuOfSets_135 zs_Model rfl ?_
    refine zq_aload_n d_Model_fuOfSets_138 rfl rfl ?_
    refine zm_getI fg_Model_210 d_Model_fuOfSets_139 zs_Model rfl ?_
    obtain ⟨hb, hJ⟩ := hJ
    refine zm_ald d_Model_fuOfSets_142 (rfl : zm_sh[54]? = some (.inl (0, 8, .inl (fun _ => 0)))) hb ?_
    refine zq_if_ne (tgt := 216) d_Model_fuOfSets_143 (by decide) (fun c => ?_) (fun c => ?_)
    · have hJ := hJ.1 c
      refine zr_less (L' := [some (.ref 33), some (.long a1), none, some (.int x3), some (.int y6), none, none]) ⟨rfl, ⟨rfl, ⟨rfl, ⟨rfl, trivial⟩⟩⟩⟩ ?_
      exact s_Model_fuOfSets_L216    hJ
    · have hJ := hJ.2 c
      refine zq_aload_n d_Model_fuOfSets_146 rfl rfl ?_
      refine zm_getI fg_Model_222 d_Model_fuOfSets_147 zs_Model rfl ?_
      refine zq_aload_n d_Model_fuOfSets_150 rfl rfl ?_
      refine zm_getR fg_Model_69 d_Model_fuOfSets_151 zs_Model rfl ?_
      refine zq_aload_n d_Model_fuOfSets_154 rfl rfl ?_
      refine zm_getI fg_Model_210 d_Model_fuOfSets_155 zs_Model rfl ?_
      obtain ⟨hb, hJ⟩ := hJ
      refine zm_ald d_Model_fuOfSets_158 (rfl : zm_sh[53]? = some (.inl (0, 8, .inl (fun _ => 0)))) hb ?_
      refine zq_isub d_Model_fuOfSets_159 ?_
      refine zr_topi (fun y7 hy7 => ?_)
      have hJ := hJ y7 hy7
      refine zr_istore (L' := [some (.ref 33), some (.long a1), none, some (.int x3), some (.int y6), some (.int y7), none]) d_Model_fuOfSets_160 (Nat.le_of_ble_eq_true rfl) rfl ?_
      refine zq_aload_n d_Model_fuOfSets_162 rfl rfl ?_
      refine zm_getR fg_Model_69 d_Model_fuOfSets_163 zs_Model rfl ?_
      refine zq_aload_n d_Model_fuOfSets_166 rfl rfl ?_
      refine zm_getI fg_Model_210 d_Model_fuOfSets_167 zs_Model rfl ?_
      obtain ⟨hb, hJ⟩ := hJ
      refine zm_ald d_Model_fuOfSets_170 (rfl : zm_sh[53]? = some (.inl (0, 8, .inl (fun _ => 0)))) hb ?_
      refine zr_csI (as := [.int (m.1 53 (Int32.toNatClampNeg (m.1 33 45)))]) (st := []) d_Model_fuOfSets_171 cc_Model_147 cs_Model_rank (s_Model_rank  hJ) rfl ⟨Nat.le_of_ble_eq_true rfl, Nat.le_of_ble_eq_true rfl⟩ (Nat.le_of_ble_eq_true rfl) ⟨Nat.le_refl _, Nat.le_refl _⟩ rfl (fun r9 m8 hJ => ?_)
      refine zr_istore (L' := [some (.ref 33), some (.long a1), none, some (.int x3), some (.int y6), some (.int y7), some (.int r9)]) d_Model_fuOfSets_174 (Nat.le_of_ble_eq_true rfl) rfl ?_
      refine zq_iload d_Model_fuOfSets_176 rfl ?_
      refine zq_iload d_Model_fuOfSets_178 rfl ?_
      refine zq_iconst (v := 1) d_Model_fuOfSets_180 zk_i1 ?_
      refine zq_icmp_eq (tgt := 208) d_Model_fuOfSets_181 (by decide) (fun c => ?_) (fun c => ?_)
      · have hJ := hJ.1 c
        refine zr_less (L' := [some (.ref 33), some (.long a1), none, some (.int x3), none, none, none]) ⟨rfl, ⟨rfl, ⟨rfl, trivial⟩⟩⟩ ?_
        exact s_Model_fuOfSets_L208    hJ
      · have hJ := hJ.2 c
        refine zq_iload d_Model_fuOfSets_184 rfl ?_
        refine zq_iconst (v := 2) d_Model_fuOfSets_186 zk_i2 ?_
        refine zq_icmp_ne (tgt := 196) d_Model_fuOfSets_187 (by decide) (fun c => ?_) (fun c => ?_)
        · have hJ := hJ.1 c
          refine zr_less (L' := [some (.ref 33), some (.long a1), none, some (.int x3), none, some (.int y7), some (.int r9)]) ⟨rfl, ⟨rfl, ⟨rfl, ⟨rfl, ⟨rfl, trivial⟩⟩⟩⟩⟩ ?_
          exact s_Model_fuOfSets_L196    hJ
        · have hJ := hJ.2 c
          refine zq_iload d_Model_fuOfSets_190 rfl ?_
          refine zq_iconst (v := 1) d_Model_fuOfSets_192 zk_i1 ?_
          refine zq_icmp_eq (tgt := 208) d_Model_fuOfSets_193 (by decide) (fun c => ?_) (fun c => ?_)
          · have hJ := hJ.1 c
            refine zr_less (L' := [some (.ref 33), some (.long a1), none, some (.int x3), none, none, none]) ⟨rfl, ⟨rfl, ⟨rfl, trivial⟩⟩⟩ ?_
            exact s_Model_fuOfSets_L208    hJ
          · have hJ := hJ.2 c
            refine zr_less (L' := [some (.ref 33), some (.long a1), none, some (.int x3), none, some (.int y7), some (.int r9)]) ⟨rfl, ⟨rfl, ⟨rfl, ⟨rfl, ⟨rfl, trivial⟩⟩⟩⟩⟩ ?_
            exact s_Model_fuOfSets_L196    hJ
  · have hJ := hJ.2 c
    refine zr_iinc (d' := 2) d_Model_fuOfSets_128 zk_i2 rfl (Nat.le_of_ble_eq_true rfl) (fun y10 hy10 => ?_)
    have hJ := hJ y10 hy10
    refine zr_L (L' := [some (.ref 33), some (.long a1), none, some (.int x3), some (.int y10), none, none]) rfl ?_
    refine zq_goto (tgt := 216) d_Model_fuOfSets_131 (by decide) ?_
    refine zr_less (L' := [some (.ref 33), some (.long a1), none, some (.int x3), some (.int y10), none, none]) ⟨rfl, ⟨rfl, ⟨rfl, ⟨rfl, trivial⟩⟩⟩⟩ ?_
    exact s_Model_fuOfSets_L216    hJ
set_option maxHeartbeats 400000 in
theorem s_Model_fuOfSets_L97 {g : zk_T} {a1 : Int64} {K : Int32 → zm → Prop} {x3 : Int32} {t0 : Int32} {t1 : Int32} {t2 : Int32} {m : zm} (hJ : j_Model_fuOfSets_L97 a1  K x3 t0 t1 t2 m) : zq_V (zk_g g) ("RiichiTableModel", prog_9_method_40_code, 7, (some .int), false, zq_rm 1 0 0) 0 0 97 [some (.ref 33), some (.long a1), none, some (.int x3), none, none, none] [.int t0, .int t1, .int t2] (zm_hp m) (zm_QI K) := by
  unfold j_Model_fuOfSets_L97 at hJ
  refine zq_iadd d_Model_fuOfSets_97 ?_
  refine zq_aload_n d_Model_fuOfSets_98 rfl rfl ?_
  refine zm_getI fg_Model_137 d_Model_fuOfSets_99 zs_Model rfl ?_
  refine zq_bipush (v := 27) d_Model_fuOfSets_102 zk_b27 ?_
  refine zq_aload_n d_Model_fuOfSets_104 rfl rfl ?_
  refine zm_getI fg_Model_216 d_Model_fuOfSets_105 zs_Model rfl ?_
  refine zq_iadd d_Model_fuOfSets_108 ?_
  refine zq_icmp_ne (tgt := 116) d_Model_fuOfSets_109 (by decide) (fun c => ?_) (fun c => ?_)
  · have hJ := hJ.1 c
    refine zq_iconst (v := 0) d_Model_fuOfSets_116 zk_i0 ?_
    refine zr_less (L' := [some (.ref 33), some (.long a1), none, some (.int x3), none, none, none]) ⟨rfl, ⟨rfl, ⟨rfl, trivial⟩⟩⟩ ?_
    exact s_Model_fuOfSets_L117    hJ
  · have hJ := hJ.2 c
    refine zq_iconst (v := 2) d_Model_fuOfSets_112 zk_i2 ?_
    refine zq_goto (tgt := 117) d_Model_fuOfSets_113 (by decide) ?_
    refine zr_less (L' := [some (.ref 33), some (.long a1), none, some (.int x3), none, none, none]) ⟨rfl, ⟨rfl, ⟨rfl, trivial⟩⟩⟩ ?_
    exact s_Model_fuOfSets_L117    hJ
set_option maxHeartbeats 400000 in
theorem s_Model_fuOfSets_L81 {g : zk_T} {a1 : Int64} {K : Int32 → zm → Prop} {x3 : Int32} {t0 : Int32} {t1 : Int32} {m : zm} (hJ : j_Model_fuOfSets_L81 a1  K x3 t0 t1 m) : zq_V (zk_g g) ("RiichiTableModel", prog_9_method_40_code, 7, (some .int), false, zq_rm 1 0 0) 0 0 81 [some (.ref 33), some (.long a1), none, some (.int x3), none, none, none] [.int t0, .int t1] (zm_hp m) (zm_QI K) := by
  unfold j_Model_fuOfSets_L81 at hJ
  refine zq_aload_n d_Model_fuOfSets_81 rfl rfl ?_
  refine zm_getI fg_Model_137 d_Model_fuOfSets_82 zs_Model rfl ?_
  refine zq_aload_n d_Model_fuOfSets_85 rfl rfl ?_
  refine zr_cvI (q := 33) (as := []) (st := [.int (m.1 33 44), .int t0, .int t1]) d_Model_fuOfSets_86 cc_Model_213 cv_Model_seatWind zs_Model (s_Model_seatWind  hJ) rfl ⟨Nat.le_of_ble_eq_true rfl, Nat.le_of_ble_eq_true rfl⟩ (Nat.le_of_ble_eq_true rfl) ⟨Nat.le_refl _, Nat.le_refl _⟩ rfl (fun r5 m4 hJ => ?_)
  refine zq_icmp_ne (tgt := 96) d_Model_fuOfSets_89 (by decide) (fun c => ?_) (fun c => ?_)
  · have hJ := hJ.1 c
    refine zq_iconst (v := 0) d_Model_fuOfSets_96 zk_i0 ?_
    refine zr_less (L' := [some (.ref 33), some (.long a1), none, some (.int x3), none, none, none]) ⟨rfl, ⟨rfl, ⟨rfl, trivial⟩⟩⟩ ?_
    exact s_Model_fuOfSets_L97    hJ
  · have hJ := hJ.2 c
    refine zq_iconst (v := 2) d_Model_fuOfSets_92 zk_i2 ?_
    refine zq_goto (tgt := 97) d_Model_fuOfSets_93 (by decide) ?_
    refine zr_less (L' := [some (.ref 33), some (.long a1), none, some (.int x3), none, none, none]) ⟨rfl, ⟨rfl, ⟨rfl, trivial⟩⟩⟩ ?_
    exact s_Model_fuOfSets_L97    hJ
set_option maxHeartbeats 400000 in
theorem s_Model_fuOfSets_L62 {g : zk_T} {a1 : Int64} {K : Int32 → zm → Prop} {x3 : Int32} {t0 : Int32} {t1 : Int32} {m : zm} (hJ : j_Model_fuOfSets_L62 a1  K x3 t0 t1 m) : zq_V (zk_g g) ("RiichiTableModel", prog_9_method_40_code, 7, (some .int), false, zq_rm 1 0 0) 0 0 62 [some (.ref 33), some (.long a1), none, some (.int x3), none, none, none] [.int t0, .int t1] (zm_hp m) (zm_QI K) := by
  unfold j_Model_fuOfSets_L62 at hJ
  refine zq_iadd d_Model_fuOfSets_62 ?_
  refine zr_topi (fun y3 hy3 => ?_)
  have hJ := hJ y3 hy3
  refine zr_istore (L' := [some (.ref 33), some (.long a1), none, some (.int x3), some (.int y3), none, none]) d_Model_fuOfSets_63 (Nat.le_of_ble_eq_true rfl) rfl ?_
  refine zq_iload d_Model_fuOfSets_65 rfl ?_
  refine zq_aload_n d_Model_fuOfSets_67 rfl rfl ?_
  refine zm_getI fg_Model_137 d_Model_fuOfSets_68 zs_Model rfl ?_
  refine zq_bipush (v := 31) d_Model_fuOfSets_71 zk_b31 ?_
  refine zq_icmp_lt (tgt := 80) d_Model_fuOfSets_73 (by decide) (fun c => ?_) (fun c => ?_)
  · have hJ := hJ.1 c
    refine zq_iconst (v := 0) d_Model_fuOfSets_80 zk_i0 ?_
    refine zr_less (L' := [some (.ref 33), some (.long a1), none, some (.int x3), none, none, none]) ⟨rfl, ⟨rfl, ⟨rfl, trivial⟩⟩⟩ ?_
    exact s_Model_fuOfSets_L81    hJ
  · have hJ := hJ.2 c
    refine zq_iconst (v := 2) d_Model_fuOfSets_76 zk_i2 ?_
    refine zq_goto (tgt := 81) d_Model_fuOfSets_77 (by decide) ?_
    refine zr_less (L' := [some (.ref 33), some (.long a1), none, some (.int x3), none, none, none]) ⟨rfl, ⟨rfl, ⟨rfl, trivial⟩⟩⟩ ?_
    exact s_Model_fuOfSets_L81    hJ
set_option maxHeartbeats 400000 in
theorem s_Model_fuOfSets_L49 {g : zk_T} {a1 : Int64} {K : Int32 → zm → Prop} {x3 : Int32} {t0 : Int32} {t1 : Int32} {m : zm} (hJ : j_Model_fuOfSets_L49 a1  K x3 t0 t1 m) : zq_V (zk_g g) ("RiichiTableModel", prog_9_method_40_code, 7, (some .int), false, zq_rm 1 0 0) 0 0 49 [some (.ref 33), some (.long a1), none, some (.int x3), none, none, none] [.int t0, .int t1] (zm_hp m) (zm_QI K) := by
  unfold j_Model_fuOfSets_L49 at hJ
  refine zq_iadd d_Model_fuOfSets_49 ?_
  refine zq_aload_n d_Model_fuOfSets_50 rfl rfl ?_
  refine zm_getI fg_Model_191 d_Model_fuOfSets_51 zs_Model rfl ?_
  refine zq_if_eq (tgt := 61) d_Model_fuOfSets_54 (by decide) (fun c => ?_) (fun c => ?_)
  · have hJ := hJ.1 c
    refine zq_iconst (v := 0) d_Model_fuOfSets_61 zk_i0 ?_
    refine zr_less (L' := [some (.ref 33), some (.long a1), none, some (.int x3), none, none, none]) ⟨rfl, ⟨rfl, ⟨rfl, trivial⟩⟩⟩ ?_
    exact s_Model_fuOfSets_L62    hJ
  · have hJ := hJ.2 c
    refine zq_iconst (v := 2) d_Model_fuOfSets_57 zk_i2 ?_
    refine zq_goto (tgt := 62) d_Model_fuOfSets_58 (by decide) ?_
    refine zr_less (L' := [some (.ref 33), some (.long a1), none, some (.int x3), none, none, none]) ⟨rfl, ⟨rfl, ⟨rfl, trivial⟩⟩⟩ ?_
    exact s_Model_fuOfSets_L62    hJ
set_option maxHeartbeats 400000 in
theorem s_Model_fuOfSets_L48 {g : zk_T} {a1 : Int64} {K : Int32 → zm → Prop} {x3 : Int32} {t0 : Int32} {m : zm} (hJ : j_Model_fuOfSets_L48 a1  K x3 t0 m) : zq_V (zk_g g) ("RiichiTableModel", prog_9_method_40_code, 7, (some .int), false, zq_rm 1 0 0) 0 0 48 [some (.ref 33), some (.long a1), none, some (.int x3), none, none, none] [.int t0] (zm_hp m) (zm_QI K) := by
  unfold j_Model_fuOfSets_L48 at hJ
  refine zq_iconst (v := 0) d_Model_fuOfSets_48 zk_i0 ?_
  refine zr_less (L' := [some (.ref 33), some (.long a1), none, some (.int x3), none, none, none]) ⟨rfl, ⟨rfl, ⟨rfl, trivial⟩⟩⟩ ?_
  exact s_Model_fuOfSets_L49    hJ
set_option maxHeartbeats 400000 in
theorem s_Model_fuOfSets_L30 {g : zk_T} {a1 : Int64} {K : Int32 → zm → Prop} {x3 : Int32} {m : zm} (hJ : j_Model_fuOfSets_L30 a1  K x3 m) : zq_V (zk_g g) ("RiichiTableModel", prog_9_method_40_code, 7, (some .int), false, zq_rm 1 0 0) 0 0 30 [some (.ref 33), some (.long a1), none, some (.int x3), none, none, none] [] (zm_hp m) (zm_QI K) := by
  unfold j_Model_fuOfSets_L30 at hJ
  refine zq_bipush (v := 20) d_Model_fuOfSets_30 zk_b20 ?_
  refine zq_iload_n d_Model_fuOfSets_32 rfl rfl ?_
  refine zq_if_eq (tgt := 48) d_Model_fuOfSets_33 (by decide) (fun c => ?_) (fun c => ?_)
  · have hJ := hJ.1 c
    refine zr_less (L' := [some (.ref 33), some (.long a1), none, some (.int x3), none, none, none]) ⟨rfl, ⟨rfl, ⟨rfl, trivial⟩⟩⟩ ?_
    exact s_Model_fuOfSets_L48    hJ
  · have hJ := hJ.2 c
    refine zq_aload_n d_Model_fuOfSets_36 rfl rfl ?_
    refine zm_getI fg_Model_191 d_Model_fuOfSets_37 zs_Model rfl ?_
    refine zq_if_ne (tgt := 48) d_Model_fuOfSets_40 (by decide) (fun c => ?_) (fun c => ?_)
    · have hJ := hJ.1 c
      refine zr_less (L' := [some (.ref 33), some (.long a1), none, some (.int x3), none, none, none]) ⟨rfl, ⟨rfl, ⟨rfl, trivial⟩⟩⟩ ?_
      exact s_Model_fuOfSets_L48    hJ
    · have hJ := hJ.2 c
      refine zq_bipush (v := 10) d_Model_fuOfSets_43 zk_b10 ?_
      refine zq_goto (tgt := 49) d_Model_fuOfSets_45 (by decide) ?_
      refine zr_less (L' := [some (.ref 33), some (.long a1), none, some (.int x3), none, none, none]) ⟨rfl, ⟨rfl, ⟨rfl, trivial⟩⟩⟩ ?_
      exact s_Model_fuOfSets_L49    hJ
set_option maxHeartbeats 400000 in
theorem s_Model_fuOfSets {g : zk_T} {a1 : Int64} {K : Int32 → zm → Prop} {m : zm} (hJ : j_Model_fuOfSets a1 m K) : zq_Mt (zk_g g) y_Model_fuOfSets 1 0 0 [.ref 33, .long a1] (zm_hp m) (zm_QI K) := by
  unfold j_Model_fuOfSets at hJ
  refine zq_meth (ini := false) rfl (fun h => by cases h) (Nat.le_of_ble_eq_true rfl) ?_
  refine zr_L (F := ("RiichiTableModel", prog_9_method_40_code, 7, (some .int), false, zq_rm 1 0 0)) (L' := [some (.ref 33), some (.long a1), none, none, none, none, none]) rfl ?_
  refine zq_aload_n d_Model_fuOfSets_0 rfl rfl ?_
  refine zq_aload_n d_Model_fuOfSets_1 rfl rfl ?_
  refine zm_getI fg_Model_184 d_Model_fuOfSets_2 zs_Model rfl ?_
  refine zr_cvI (q := 33) (as := [.int (m.1 33 32)]) (st := []) d_Model_fuOfSets_5 cc_Model_194 cv_Model_isClosed zs_Model (s_Model_isClosed  hJ) rfl ⟨Nat.le_of_ble_eq_true rfl, Nat.le_of_ble_eq_true rfl⟩ (Nat.le_of_ble_eq_true rfl) ⟨Nat.le_refl _, Nat.le_refl _⟩ rfl (fun r2 m1 hJ => ?_)
  refine zr_istore_n (L' := [some (.ref 33), some (.long a1), none, some (.int r2), none, none, none]) d_Model_fuOfSets_8 rfl (Nat.le_of_ble_eq_true rfl) rfl ?_
  refine zq_aload_n d_Model_fuOfSets_9 rfl rfl ?_
  refine zm_getI fg_Model_191 d_Model_fuOfSets_10 zs_Model rfl ?_
  refine zq_if_eq (tgt := 30) d_Model_fuOfSets_13 (by decide) (fun c => ?_) (fun c => ?_)
  · have hJ := hJ.1 c
    refine zr_less (L' := [some (.ref 33), some (.long a1), none, some (.int r2), none, none, none]) ⟨rfl, ⟨rfl, ⟨rfl, trivial⟩⟩⟩ ?_
    exact s_Model_fuOfSets_L30    hJ
  · have hJ := hJ.2 c
    refine zq_lload_n d_Model_fuOfSets_16 rfl rfl ?_
    refine zq_bipush (v := 8) d_Model_fuOfSets_17 zk_b8 ?_
    refine zq_lshr d_Model_fuOfSets_19 ?_
    refine zq_lconst (v := 1) d_Model_fuOfSets_20 zk_l1 ?_
    refine zq_land d_Model_fuOfSets_21 ?_
    refine zq_lconst (v := 1) d_Model_fuOfSets_22 zk_l1 ?_
    refine zq_lcmp d_Model_fuOfSets_23 ?_
    refine zq_if_ne (tgt := 30) d_Model_fuOfSets_24 (by decide) (fun c => ?_) (fun c => ?_)
    · have hJ := hJ.1 c
      refine zr_less (L' := [some (.ref 33), some (.long a1), none, some (.int r2), none, none, none]) ⟨rfl, ⟨rfl, ⟨rfl, trivial⟩⟩⟩ ?_
      exact s_Model_fuOfSets_L30    hJ
    · have hJ := hJ.2 c
      refine zq_bipush (v := 20) d_Model_fuOfSets_27 zk_b20 ?_
      exact zq_iret d_Model_fuOfSets_29 rfl rfl (Nat.le_refl _) (Nat.le_refl _) ⟨_, _, rfl, rfl, hJ⟩
set_option maxHeartbeats 400000 in
theorem s_Model_doraOf_L50 {g : zk_T} {a0 : Int32} {K : Int32 → zm → Prop} {t0 : Int32} {m : zm} (hJ : j_Model_doraOf_L50 a0  K t0 m) : zq_V (zk_g g) ("RiichiTableModel", prog_9_method_41_code, 1, (some .int), false, zq_rm 0 0 0) 0 0 50 [some (.int a0)] [.int t0] (zm_hp m) (zm_QI K) := by
  unfold j_Model_doraOf_L50 at hJ
  exact zq_iret d_Model_doraOf_50 rfl rfl (Nat.le_refl _) (Nat.le_refl _) ⟨_, _, rfl, rfl, hJ⟩
set_option maxHeartbeats 400000 in
theorem s_Model_doraOf {g : zk_T} {a0 : Int32} {K : Int32 → zm → Prop} {m : zm} (hJ : j_Model_doraOf a0 m K) : zq_Mt (zk_g g) y_Model_doraOf 0 0 0 [.int a0] (zm_hp m) (zm_QI K) := by
  unfold j_Model_doraOf at hJ
  refine zq_meth (ini := false) rfl (fun h => by cases h) (Nat.le_of_ble_eq_true rfl) ?_
  refine zr_L (F := ("RiichiTableModel", prog_9_method_41_code, 1, (some .int), false, zq_rm 0 0 0)) (L' := [some (.int a0)]) rfl ?_
  refine zq_iload_n d_Model_doraOf_0 rfl rfl ?_
  refine zq_bipush (v := 27) d_Model_doraOf_1 zk_b27 ?_
  refine zq_icmp_ge (tgt := 23) d_Model_doraOf_3 (by decide) (fun c => ?_) (fun c => ?_)
  · have hJ := hJ.1 c
    refine zq_iload_n d_Model_doraOf_23 rfl rfl ?_
    refine zq_bipush (v := 31) d_Model_doraOf_24 zk_b31 ?_
    refine zq_icmp_ge (tgt := 41) d_Model_doraOf_26 (by decide) (fun c => ?_) (fun c => ?_)
    · have hJ := hJ.1 c
      refine zq_bipush (v := 31) d_Model_doraOf_41 zk_b31 ?_
      refine zq_iload_n d_Model_doraOf_43 rfl rfl ?_
      refine zq_bipush (v := 30) d_Model_doraOf_44 zk_b30 ?_
      refine zq_isub d_Model_doraOf_46 ?_
      refine zq_iconst (v := 3) d_Model_doraOf_47 zk_i3 ?_
      refine zq_irem d_Model_doraOf_48 (by decide) ?_
      refine zq_iadd d_Model_doraOf_49 ?_
      refine zr_less (L' := [some (.int a0)]) ⟨rfl, trivial⟩ ?_
      exact s_Model_doraOf_L50    hJ
    · have hJ := hJ.2 c
      refine zq_bipush (v := 27) d_Model_doraOf_29 zk_b27 ?_
      refine zq_iload_n d_Model_doraOf_31 rfl rfl ?_
      refine zq_bipush (v := 26) d_Model_doraOf_32 zk_b26 ?_
      refine zq_isub d_Model_doraOf_34 ?_
      refine zq_iconst (v := 4) d_Model_doraOf_35 zk_i4 ?_
      refine zq_irem d_Model_doraOf_36 (by decide) ?_
      refine zq_iadd d_Model_doraOf_37 ?_
      refine zq_goto (tgt := 50) d_Model_doraOf_38 (by decide) ?_
      refine zr_less (L' := [some (.int a0)]) ⟨rfl, trivial⟩ ?_
      exact s_Model_doraOf_L50    hJ
  · have hJ := hJ.2 c
    refine zq_iload_n d_Model_doraOf_6 rfl rfl ?_
    refine zq_bipush (v := 9) d_Model_doraOf_7 zk_b9 ?_
    refine zq_idiv d_Model_doraOf_9 (by decide) ?_
    refine zq_bipush (v := 9) d_Model_doraOf_10 zk_b9 ?_
    refine zq_imul d_Model_doraOf_12 ?_
    refine zq_iload_n d_Model_doraOf_13 rfl rfl ?_
    refine zq_iconst (v := 1) d_Model_doraOf_14 zk_i1 ?_
    refine zq_iadd d_Model_doraOf_15 ?_
    refine zq_bipush (v := 9) d_Model_doraOf_16 zk_b9 ?_
    refine zq_irem d_Model_doraOf_18 (by decide) ?_
    refine zq_iadd d_Model_doraOf_19 ?_
    refine zq_goto (tgt := 50) d_Model_doraOf_20 (by decide) ?_
    refine zr_less (L' := [some (.int a0)]) ⟨rfl, trivial⟩ ?_
    exact s_Model_doraOf_L50    hJ
set_option maxHeartbeats 400000 in
theorem s_Model_doras_L72 {g : zk_T} {R4 : Int32 → Int32 → zm → Prop} {K : Int32 → zm → Prop} (hR4 : ∀ {x1 : Int32} {x2 : Int32} {m : zm}, R4 x1 x2 m → zq_V (zk_g g) ("RiichiTableModel", prog_9_method_42_code, 3, (some .int), false, zq_rm 1 0 0) 0 0 4 [some (.ref 33), some (.int x1), some (.int x2)] [] (zm_hp m) (zm_QI K)) {x2 : Int32} {t0 : Int32} {t1 : Int32} {m : zm} (hJ : j_Model_doras_L72  R4 K x2 t0 t1 m) : zq_V (zk_g g) ("RiichiTableModel", prog_9_method_42_code, 3, (some .int), false, zq_rm 1 0 0) 0 0 72 [some (.ref 33), none, some (.int x2)] [.int t0, .int t1] (zm_hp m) (zm_QI K) := by
  unfold j_Model_doras_L72 at hJ
  refine zq_iadd d_Model_doras_72 ?_
  refine zr_topi (fun y6 hy6 => ?_)
  have hJ := hJ y6 hy6
  refine zr_istore_n (L' := [some (.ref 33), some (.int y6), some (.int x2)]) d_Model_doras_73 rfl (Nat.le_of_ble_eq_true rfl) rfl ?_
  refine zr_iinc (d' := 1) d_Model_doras_74 zk_i1 rfl (Nat.le_of_ble_eq_true rfl) (fun y7 hy7 => ?_)
  have hJ := hJ y7 hy7
  refine zr_L (L' := [some (.ref 33), some (.int y6), some (.int y7)]) rfl ?_
  refine zq_goto (tgt := 4) d_Model_doras_77 (by decide) ?_
  refine zr_less (L' := [some (.ref 33), some (.int y6), some (.int y7)]) ⟨rfl, ⟨rfl, ⟨rfl, trivial⟩⟩⟩ ?_
  exact hR4  hJ
set_option maxHeartbeats 400000 in
theorem s_Model_doras_L4 {g : zk_T} {K : Int32 → zm → Prop} : ∀ (n : Nat) {x1 : Int32} {x2 : Int32} {m : zm}, j_Model_doras_L4   K n x1 x2 m → zq_V (zk_g g) ("RiichiTableModel", prog_9_method_42_code, 3, (some .int), false, zq_rm 1 0 0) 0 0 4 [some (.ref 33), some (.int x1), some (.int x2)] [] (zm_hp m) (zm_QI K) := by
  intro n
  induction n with
  | zero =>
    intro x1 x2 m hJ
    exact False.elim hJ
  | succ n ih =>
    intro x1 x2 m hJ
    rw [j_Model_doras_L4] at hJ
    refine zq_iload_n d_Model_doras_4 rfl rfl ?_
    refine zq_aload_n d_Model_doras_5 rfl rfl ?_
    refine zm_getI fg_Model_93 d_Model_doras_6 zs_Model rfl ?_
    refine zq_icmp_gt (tgt := 80) d_Model_doras_9 (by decide) (fun c => ?_) (fun c => ?_)
    · have hJ := hJ.1 c
      refine zq_iload_n d_Model_doras_80 rfl rfl ?_
      exact zq_iret d_Model_doras_81 rfl rfl (Nat.le_refl _) (Nat.le_refl _) ⟨_, _, rfl, rfl, hJ⟩
    · have hJ := hJ.2 c
      refine zq_iload_n d_Model_doras_12 rfl rfl ?_
      refine zq_aload_n d_Model_doras_13 rfl rfl ?_
      refine zm_getR fg_Model_63 d_Model_doras_14 zs_Model rfl ?_
      refine zq_aload_n d_Model_doras_17 rfl rfl ?_
      refine zm_getR fg_Model_7 d_Model_doras_18 zs_Model rfl ?_
      refine zq_sipush (v := 131) d_Model_doras_21 zk_s131 ?_
      refine zq_iconst (v := 2) d_Model_doras_24 zk_i2 ?_
      refine zq_iload_n d_Model_doras_25 rfl rfl ?_
      refine zq_imul d_Model_doras_26 ?_
      refine zq_isub d_Model_doras_27 ?_
      obtain ⟨hb, hJ⟩ := hJ
      refine zm_ald d_Model_doras_28 (rfl : zm_sh[34]? = some (.inl (0, 136, .inl (fun _ => 0)))) hb ?_
      refine zr_csI (as := [.int (m.1 34 (Int32.toNatClampNeg (131 - (2 * x2))))]) (st := [.ref 51, .int x1]) d_Model_doras_29 cc_Model_240 cs_Model_doraOf (s_Model_doraOf  hJ) rfl ⟨Nat.le_of_ble_eq_true rfl, Nat.le_of_ble_eq_true rfl⟩ (Nat.le_of_ble_eq_true rfl) ⟨Nat.le_refl _, Nat.le_refl _⟩ rfl (fun r2 m1 hJ => ?_)
      obtain ⟨hb, hJ⟩ := hJ
      refine zm_ald d_Model_doras_32 (rfl : zm_sh[51]? = some (.inl (0, 34, .inl (fun _ => 0)))) hb ?_
      refine zq_iadd d_Model_doras_33 ?_
      refine zr_topi (fun y3 hy3 => ?_)
      have hJ := hJ y3 hy3
      refine zr_istore_n (L' := [some (.ref 33), some (.int y3), some (.int x2)]) d_Model_doras_34 rfl (Nat.le_of_ble_eq_true rfl) rfl ?_
      refine zq_iload_n d_Model_doras_35 rfl rfl ?_
      refine zq_aload_n d_Model_doras_36 rfl rfl ?_
      refine zm_getR fg_Model_34 d_Model_doras_37 zs_Model rfl ?_
      refine zq_aload_n d_Model_doras_40 rfl rfl ?_
      refine zm_getI fg_Model_184 d_Model_doras_41 zs_Model rfl ?_
      obtain ⟨hb, hJ⟩ := hJ
      refine zm_ald d_Model_doras_44 (rfl : zm_sh[42]? = some (.inl (0, 4, .inl (fun _ => 0)))) hb ?_
      refine zq_if_le (tgt := 71) d_Model_doras_45 (by decide) (fun c => ?_) (fun c => ?_)
      · have hJ := hJ.1 c
        refine zq_iconst (v := 0) d_Model_doras_71 zk_i0 ?_
        refine zr_less (L' := [some (.ref 33), none, some (.int x2)]) ⟨rfl, ⟨rfl, trivial⟩⟩ ?_
        exact s_Model_doras_L72  ih  hJ
      · have hJ := hJ.2 c
        refine zq_aload_n d_Model_doras_48 rfl rfl ?_
        refine zm_getR fg_Model_63 d_Model_doras_49 zs_Model rfl ?_
        refine zq_aload_n d_Model_doras_52 rfl rfl ?_
        refine zm_getR fg_Model_7 d_Model_doras_53 zs_Model rfl ?_
        refine zq_sipush (v := 130) d_Model_doras_56 zk_s130 ?_
        refine zq_iconst (v := 2) d_Model_doras_59 zk_i2 ?_
        refine zq_iload_n d_Model_doras_60 rfl rfl ?_
        refine zq_imul d_Model_doras_61 ?_
        refine zq_isub d_Model_doras_62 ?_
        obtain ⟨hb, hJ⟩ := hJ
        refine zm_ald d_Model_doras_63 (rfl : zm_sh[34]? = some (.inl (0, 136, .inl (fun _ => 0)))) hb ?_
        refine zr_csI (as := [.int (m1.1 34 (Int32.toNatClampNeg (130 - (2 * x2))))]) (st := [.ref 51, .int y3]) d_Model_doras_64 cc_Model_240 cs_Model_doraOf (s_Model_doraOf  hJ) rfl ⟨Nat.le_of_ble_eq_true rfl, Nat.le_of_ble_eq_true rfl⟩ (Nat.le_of_ble_eq_true rfl) ⟨Nat.le_refl _, Nat.le_refl _⟩ rfl (fun r5 m4 hJ => ?_)
        obtain ⟨hb, hJ⟩ := hJ
        refine zm_ald d_Model_doras_67 (rfl : zm_sh[51]? = some (.inl (0, 34, .inl (fun _ => 0)))) hb ?_
        refine zq_goto (tgt := 72) d_Model_doras_68 (by decide) ?_
        refine zr_less (L' := [some (.ref 33), none, some (.int x2)]) ⟨rfl, ⟨rfl, trivial⟩⟩ ?_
        exact s_Model_doras_L72  ih  hJ
set_option maxHeartbeats 400000 in
theorem s_Model_doras {g : zk_T} {K : Int32 → zm → Prop} {m : zm} (hJ : j_Model_doras  m K) : zq_Mt (zk_g g) y_Model_doras 1 0 0 [.ref 33] (zm_hp m) (zm_QI K) := by
  unfold j_Model_doras at hJ
  refine zq_meth (ini := false) rfl (fun h => by cases h) (Nat.le_of_ble_eq_true rfl) ?_
  refine zr_L (F := ("RiichiTableModel", prog_9_method_42_code, 3, (some .int), false, zq_rm 1 0 0)) (L' := [some (.ref 33), none, none]) rfl ?_
  refine zq_iconst (v := 0) d_Model_doras_0 zk_i0 ?_
  refine zr_istore_n (L' := [some (.ref 33), some (.int 0), none]) d_Model_doras_1 rfl (Nat.le_of_ble_eq_true rfl) rfl ?_
  refine zq_iconst (v := 0) d_Model_doras_2 zk_i0 ?_
  refine zr_istore_n (L' := [some (.ref 33), some (.int 0), some (.int 0)]) d_Model_doras_3 rfl (Nat.le_of_ble_eq_true rfl) rfl ?_
  refine zr_less (L' := [some (.ref 33), some (.int 0), some (.int 0)]) ⟨rfl, ⟨rfl, ⟨rfl, trivial⟩⟩⟩ ?_
  obtain ⟨n4, hJ⟩ := hJ
  exact s_Model_doras_L4   n4  hJ
set_option maxHeartbeats 400000 in
theorem s_Model_counted_L20 {g : zk_T} {a0 : Int64} {K : Int64 → zm → Prop} {t0 : Int64} {m : zm} (hJ : j_Model_counted_L20 a0  K t0 m) : zq_V (zk_g g) ("RiichiTableModel", prog_9_method_43_code, 2, (some .long), false, zq_rm 0 0 0) 0 0 20 [some (.long a0), none] [.long t0] (zm_hp m) (zm_QL K) := by
  unfold j_Model_counted_L20 at hJ
  exact zq_lret d_Model_counted_20 rfl (Nat.le_refl _) (Nat.le_refl _) ⟨_, _, rfl, rfl, hJ⟩
set_option maxHeartbeats 400000 in
theorem s_Model_counted {g : zk_T} {a0 : Int64} {K : Int64 → zm → Prop} {m : zm} (hJ : j_Model_counted a0 m K) : zq_Mt (zk_g g) y_Model_counted 0 0 0 [.long a0] (zm_hp m) (zm_QL K) := by
  unfold j_Model_counted at hJ
  refine zq_meth (ini := false) rfl (fun h => by cases h) (Nat.le_of_ble_eq_true rfl) ?_
  refine zr_L (F := ("RiichiTableModel", prog_9_method_43_code, 2, (some .long), false, zq_rm 0 0 0)) (L' := [some (.long a0), none]) rfl ?_
  refine zq_lload_n d_Model_counted_0 rfl rfl ?_
  refine zq_bipush (v := 30) d_Model_counted_1 zk_b30 ?_
  refine zq_lshr d_Model_counted_3 ?_
  refine zq_lconst (v := 0) d_Model_counted_4 zk_l0 ?_
  refine zq_lcmp d_Model_counted_5 ?_
  refine zq_if_eq (tgt := 19) d_Model_counted_6 (by decide) (fun c => ?_) (fun c => ?_)
  · have hJ := hJ.1 c
    refine zq_lload_n d_Model_counted_19 rfl rfl ?_
    refine zr_less (L' := [some (.long a0), none]) ⟨rfl, trivial⟩ ?_
    exact s_Model_counted_L20    hJ
  · have hJ := hJ.2 c
    refine zq_lload_n d_Model_counted_9 rfl rfl ?_
    refine zq_bipush (v := 30) d_Model_counted_10 zk_b30 ?_
    refine zq_lshr d_Model_counted_12 ?_
    refine zq_bipush (v := 30) d_Model_counted_13 zk_b30 ?_
    refine zq_lshl d_Model_counted_15 ?_
    refine zq_goto (tgt := 20) d_Model_counted_16 (by decide) ?_
    refine zr_less (L' := [some (.long a0), none]) ⟨rfl, trivial⟩ ?_
    exact s_Model_counted_L20    hJ
set_option maxHeartbeats 400000 in
theorem s_Model_judge_L93 {g : zk_T} {a1 : Int64} {a3 : Int32} {R50 : Int64 → Int32 → Int32 → Int32 → zm → Prop} {K : zm → Prop} (hR50 : ∀ {x4 : Int64} {x6 : Int32} {x7 : Int32} {x8 : Int32} {m : zm}, R50 x4 x6 x7 x8 m → zq_V (zk_g g) ("RiichiTableModel", prog_9_method_44_code, 10, none, false, zq_rm 2 0 0) 0 0 50 [some (.ref 33), some (.long a1), none, some (.int a3), some (.long x4), none, some (.int x6), some (.int x7), some (.int x8), none] [] (zm_hp m) (zm_QV K)) {x4 : Int64} {x6 : Int32} {x8 : Int32} {t0 : Int32} {t1 : Int32} {m : zm} (hJ : j_Model_judge_L93 a1 a3 R50 K x4 x6 x8 t0 t1 m) : zq_V (zk_g g) ("RiichiTableModel", prog_9_method_44_code, 10, none, false, zq_rm 2 0 0) 0 0 93 [some (.ref 33), some (.long a1), none, some (.int a3), some (.long x4), none, some (.int x6), none, some (.int x8), none] [.int t0, .int t1] (zm_hp m) (zm_QV K) := by
  unfold j_Model_judge_L93 at hJ
  refine zq_iadd d_Model_judge_93 ?_
  refine zr_topi (fun y9 hy9 => ?_)
  have hJ := hJ y9 hy9
  refine zr_istore (L' := [some (.ref 33), some (.long a1), none, some (.int a3), some (.long x4), none, some (.int x6), some (.int y9), some (.int x8), none]) d_Model_judge_94 (Nat.le_of_ble_eq_true rfl) rfl ?_
  refine zr_iinc (d' := 1) d_Model_judge_96 zk_i1 rfl (Nat.le_of_ble_eq_true rfl) (fun y10 hy10 => ?_)
  have hJ := hJ y10 hy10
  refine zr_L (L' := [some (.ref 33), some (.long a1), none, some (.int a3), some (.long x4), none, some (.int x6), some (.int y9), some (.int y10), none]) rfl ?_
  refine zq_goto (tgt := 50) d_Model_judge_99 (by decide) ?_
  refine zr_less (L' := [some (.ref 33), some (.long a1), none, some (.int a3), some (.long x4), none, some (.int x6), some (.int y9), some (.int y10), none]) ⟨rfl, ⟨rfl, ⟨rfl, ⟨rfl, ⟨rfl, ⟨rfl, ⟨rfl, trivial⟩⟩⟩⟩⟩⟩⟩ ?_
  exact hR50  hJ
set_option maxHeartbeats 400000 in
theorem s_Model_judge_L231 {g : zk_T} {a1 : Int64} {a3 : Int32} {K : zm → Prop} {m : zm} (hJ : j_Model_judge_L231 a1 a3  K  m) : zq_V (zk_g g) ("RiichiTableModel", prog_9_method_44_code, 10, none, false, zq_rm 2 0 0) 0 0 231 [some (.ref 33), some (.long a1), none, some (.int a3), none, none, none, none, none, none] [] (zm_hp m) (zm_QV K) := by
  unfold j_Model_judge_L231 at hJ
  exact zq_vret d_Model_judge_231 rfl (Nat.le_refl _) (Nat.le_refl _) ⟨_, rfl, rfl, hJ⟩
set_option maxHeartbeats 400000 in
theorem s_Model_judge_L201 {g : zk_T} {a1 : Int64} {a3 : Int32} {K : zm → Prop} {x4 : Int64} {x7 : Int32} {x8 : Int32} {t0 : Int32} {m : zm} (hJ : j_Model_judge_L201 a1 a3  K x4 x7 x8 t0 m) : zq_V (zk_g g) ("RiichiTableModel", prog_9_method_44_code, 10, none, false, zq_rm 2 0 0) 0 0 201 [some (.ref 33), some (.long a1), none, some (.int a3), some (.long x4), none, none, some (.int x7), some (.int x8), none] [.int t0] (zm_hp m) (zm_QV K) := by
  unfold j_Model_judge_L201 at hJ
  refine zr_istore (L' := [some (.ref 33), some (.long a1), none, some (.int a3), some (.long x4), none, none, some (.int x7), some (.int x8), some (.int t0)]) d_Model_judge_201 (Nat.le_of_ble_eq_true rfl) rfl ?_
  refine zq_iload d_Model_judge_203 rfl ?_
  refine zq_if_eq (tgt := 231) d_Model_judge_205 (by decide) (fun c => ?_) (fun c => ?_)
  · have hJ := hJ.1 c
    refine zr_less (L' := [some (.ref 33), some (.long a1), none, some (.int a3), none, none, none, none, none, none]) ⟨rfl, ⟨rfl, ⟨rfl, trivial⟩⟩⟩ ?_
    exact s_Model_judge_L231    hJ
  · have hJ := hJ.2 c
    refine zq_aload_n d_Model_judge_208 rfl rfl ?_
    refine zq_iload d_Model_judge_209 rfl ?_
    refine zr_putI fl_Model_257 d_Model_judge_211 zs_Model rfl rfl (fun m13 hm13 => ?_)
    have hJ := hJ m13 hm13
    refine zq_aload_n d_Model_judge_214 rfl rfl ?_
    refine zq_iload d_Model_judge_215 rfl ?_
    refine zr_putI fl_Model_260 d_Model_judge_217 zs_Model rfl rfl (fun m14 hm14 => ?_)
    have hJ := hJ m14 hm14
    refine zq_aload_n d_Model_judge_220 rfl rfl ?_
    refine zq_iload_n d_Model_judge_221 rfl rfl ?_
    refine zr_putI fl_Model_263 d_Model_judge_222 zs_Model rfl rfl (fun m15 hm15 => ?_)
    have hJ := hJ m15 hm15
    refine zq_aload_n d_Model_judge_225 rfl rfl ?_
    refine zq_lload d_Model_judge_226 rfl ?_
    refine zr_putL fl_Model_266 d_Model_judge_228 zs_Model rfl rfl (fun m16 hm16 => ?_)
    have hJ := hJ m16 hm16
    refine zr_less (L' := [some (.ref 33), some (.long a1), none, some (.int a3), none, none, none, none, none, none]) ⟨rfl, ⟨rfl, ⟨rfl, trivial⟩⟩⟩ ?_
    exact s_Model_judge_L231    hJ
set_option maxHeartbeats 400000 in
theorem s_Model_judge_L102 {g : zk_T} {a1 : Int64} {a3 : Int32} {K : zm → Prop} {x4 : Int64} {x7 : Int32} {m : zm} (hJ : j_Model_judge_L102 a1 a3  K x4 x7 m) : zq_V (zk_g g) ("RiichiTableModel", prog_9_method_44_code, 10, none, false, zq_rm 2 0 0) 0 0 102 [some (.ref 33), some (.long a1), none, some (.int a3), some (.long x4), none, none, some (.int x7), none, none] [] (zm_hp m) (zm_QV K) := by
  unfold j_Model_judge_L102 at hJ
  refine zq_iload d_Model_judge_102 rfl ?_
  refine zq_iload_n d_Model_judge_104 rfl rfl ?_
  refine zr_csI (as := [.int x7, .int a3]) (st := []) d_Model_judge_105 cc_Model_254 cs_Model_baseOf (s_Model_baseOf  hJ) rfl ⟨Nat.le_of_ble_eq_true rfl, Nat.le_of_ble_eq_true rfl⟩ (Nat.le_of_ble_eq_true rfl) ⟨Nat.le_refl _, Nat.le_refl _⟩ rfl (fun r12 m11 hJ => ?_)
  refine zr_istore (L' := [some (.ref 33), some (.long a1), none, some (.int a3), some (.long x4), none, none, some (.int x7), some (.int r12), none]) d_Model_judge_108 (Nat.le_of_ble_eq_true rfl) rfl ?_
  refine zq_iload d_Model_judge_110 rfl ?_
  refine zq_aload_n d_Model_judge_112 rfl rfl ?_
  refine zm_getI fg_Model_257 d_Model_judge_113 zs_Model rfl ?_
  refine zq_icmp_eq (tgt := 136) d_Model_judge_116 (by decide) (fun c => ?_) (fun c => ?_)
  · have hJ := hJ.1 c
    refine zq_iload d_Model_judge_136 rfl ?_
    refine zq_aload_n d_Model_judge_138 rfl rfl ?_
    refine zm_getI fg_Model_260 d_Model_judge_139 zs_Model rfl ?_
    refine zq_icmp_eq (tgt := 162) d_Model_judge_142 (by decide) (fun c => ?_) (fun c => ?_)
    · have hJ := hJ.1 c
      refine zq_iload_n d_Model_judge_162 rfl rfl ?_
      refine zq_aload_n d_Model_judge_163 rfl rfl ?_
      refine zm_getI fg_Model_263 d_Model_judge_164 zs_Model rfl ?_
      refine zq_icmp_eq (tgt := 186) d_Model_judge_167 (by decide) (fun c => ?_) (fun c => ?_)
      · have hJ := hJ.1 c
        refine zq_lload d_Model_judge_186 rfl ?_
        refine zq_aload_n d_Model_judge_188 rfl rfl ?_
        refine zm_getL fg_Model_266 d_Model_judge_189 zs_Model rfl ?_
        refine zq_lcmp d_Model_judge_192 ?_
        refine zq_if_le (tgt := 200) d_Model_judge_193 (by decide) (fun c => ?_) (fun c => ?_)
        · have hJ := hJ.1 c
          refine zq_iconst (v := 0) d_Model_judge_200 zk_i0 ?_
          refine zr_less (L' := [some (.ref 33), some (.long a1), none, some (.int a3), some (.long x4), none, none, some (.int x7), some (.int r12), none]) ⟨rfl, ⟨rfl, ⟨rfl, ⟨rfl, ⟨rfl, ⟨rfl, trivial⟩⟩⟩⟩⟩⟩ ?_
          exact s_Model_judge_L201    hJ
        · have hJ := hJ.2 c
          refine zq_iconst (v := 1) d_Model_judge_196 zk_i1 ?_
          refine zq_goto (tgt := 201) d_Model_judge_197 (by decide) ?_
          refine zr_less (L' := [some (.ref 33), some (.long a1), none, some (.int a3), some (.long x4), none, none, some (.int x7), some (.int r12), none]) ⟨rfl, ⟨rfl, ⟨rfl, ⟨rfl, ⟨rfl, ⟨rfl, trivial⟩⟩⟩⟩⟩⟩ ?_
          exact s_Model_judge_L201    hJ
      · have hJ := hJ.2 c
        refine zq_iload_n d_Model_judge_170 rfl rfl ?_
        refine zq_aload_n d_Model_judge_171 rfl rfl ?_
        refine zm_getI fg_Model_263 d_Model_judge_172 zs_Model rfl ?_
        refine zq_icmp_le (tgt := 182) d_Model_judge_175 (by decide) (fun c => ?_) (fun c => ?_)
        · have hJ := hJ.1 c
          refine zq_iconst (v := 0) d_Model_judge_182 zk_i0 ?_
          refine zq_goto (tgt := 201) d_Model_judge_183 (by decide) ?_
          refine zr_less (L' := [some (.ref 33), some (.long a1), none, some (.int a3), some (.long x4), none, none, some (.int x7), some (.int r12), none]) ⟨rfl, ⟨rfl, ⟨rfl, ⟨rfl, ⟨rfl, ⟨rfl, trivial⟩⟩⟩⟩⟩⟩ ?_
          exact s_Model_judge_L201    hJ
        · have hJ := hJ.2 c
          refine zq_iconst (v := 1) d_Model_judge_178 zk_i1 ?_
          refine zq_goto (tgt := 201) d_Model_judge_179 (by decide) ?_
          refine zr_less (L' := [some (.ref 33), some (.long a1), none, some (.int a3), some (.long x4), none, none, some (.int x7), some (.int r12), none]) ⟨rfl, ⟨rfl, ⟨rfl, ⟨rfl, ⟨rfl, ⟨rfl, trivial⟩⟩⟩⟩⟩⟩ ?_
          exact s_Model_judge_L201    hJ
    · have hJ := hJ.2 c
      refine zq_iload d_Model_judge_145 rfl ?_
      refine zq_aload_n d_Model_judge_147 rfl rfl ?_
      refine zm_getI fg_Model_260 d_Model_judge_148 zs_Model rfl ?_
      refine zq_icmp_le (tgt := 158) d_Model_judge_151 (by decide) (fun c => ?_) (fun c => ?_)
      · have hJ := hJ.1 c
        refine zq_iconst (v := 0) d_Model_judge_158 zk_i0 ?_
        refine zq_goto (tgt := 201) d_Model_judge_159 (by decide) ?_
        refine zr_less (L' := [some (.ref 33), some (.long a1), none, some (.int a3), some (.long x4), none, none, some (.int x7), some (.int r12), none]) ⟨rfl, ⟨rfl, ⟨rfl, ⟨rfl, ⟨rfl, ⟨rfl, trivial⟩⟩⟩⟩⟩⟩ ?_
        exact s_Model_judge_L201    hJ
      · have hJ := hJ.2 c
        refine zq_iconst (v := 1) d_Model_judge_154 zk_i1 ?_
        refine zq_goto (tgt := 201) d_Model_judge_155 (by decide) ?_
        refine zr_less (L' := [some (.ref 33), some (.long a1), none, some (.int a3), some (.long x4), none, none, some (.int x7), some (.int r12), none]) ⟨rfl, ⟨rfl, ⟨rfl, ⟨rfl, ⟨rfl, ⟨rfl, trivial⟩⟩⟩⟩⟩⟩ ?_
        exact s_Model_judge_L201    hJ
  · have hJ := hJ.2 c
    refine zq_iload d_Model_judge_119 rfl ?_
    refine zq_aload_n d_Model_judge_121 rfl rfl ?_
    refine zm_getI fg_Model_257 d_Model_judge_122 zs_Model rfl ?_
    refine zq_icmp_le (tgt := 132) d_Model_judge_125 (by decide) (fun c => ?_) (fun c => ?_)
    · have hJ := hJ.1 c
      refine zq_iconst (v := 0) d_Model_judge_132 zk_i0 ?_
      refine zq_goto (tgt := 201) d_Model_judge_133 (by decide) ?_
      refine zr_less (L' := [some (.ref 33), some (.long a1), none, some (.int a3), some (.long x4), none, none, some (.int x7), some (.int r12), none]) ⟨rfl, ⟨rfl, ⟨rfl, ⟨rfl, ⟨rfl, ⟨rfl, trivial⟩⟩⟩⟩⟩⟩ ?_
      exact s_Model_judge_L201    hJ
    · have hJ := hJ.2 c
      refine zq_iconst (v := 1) d_Model_judge_128 zk_i1 ?_
      refine zq_goto (tgt := 201) d_Model_judge_129 (by decide) ?_
      refine zr_less (L' := [some (.ref 33), some (.long a1), none, some (.int a3), some (.long x4), none, none, some (.int x7), some (.int r12), none]) ⟨rfl, ⟨rfl, ⟨rfl, ⟨rfl, ⟨rfl, ⟨rfl, trivial⟩⟩⟩⟩⟩⟩ ?_
      exact s_Model_judge_L201    hJ
set_option maxHeartbeats 400000 in
theorem s_Model_judge_L50 {g : zk_T} {a1 : Int64} {a3 : Int32} {K : zm → Prop} : ∀ (n : Nat) {x4 : Int64} {x6 : Int32} {x7 : Int32} {x8 : Int32} {m : zm}, j_Model_judge_L50 a1 a3  K n x4 x6 x7 x8 m → zq_V (zk_g g) ("RiichiTableModel", prog_9_method_44_code, 10, none, false, zq_rm 2 0 0) 0 0 50 [some (.ref 33), some (.long a1), none, some (.int a3), some (.long x4), none, some (.int x6), some (.int x7), some (.int x8), none] [] (zm_hp m) (zm_QV K) := by
  intro n
  induction n with
  | zero =>
    intro x4 x6 x7 x8 m hJ
    exact False.elim hJ
  | succ n ih =>
    intro x4 x6 x7 x8 m hJ
    rw [j_Model_judge_L50] at hJ
    refine zq_iload d_Model_judge_50 rfl ?_
    refine zq_bipush (v := 30) d_Model_judge_52 zk_b30 ?_
    refine zq_icmp_ge (tgt := 102) d_Model_judge_54 (by decide) (fun c => ?_) (fun c => ?_)
    · have hJ := hJ.1 c
      refine zr_less (L' := [some (.ref 33), some (.long a1), none, some (.int a3), some (.long x4), none, none, some (.int x7), none, none]) ⟨rfl, ⟨rfl, ⟨rfl, ⟨rfl, ⟨rfl, trivial⟩⟩⟩⟩⟩ ?_
      exact s_Model_judge_L102    hJ
    · have hJ := hJ.2 c
      refine zq_iload d_Model_judge_57 rfl ?_
      refine zq_if_ne (tgt := 102) d_Model_judge_59 (by decide) (fun c => ?_) (fun c => ?_)
      · have hJ := hJ.1 c
        refine zr_less (L' := [some (.ref 33), some (.long a1), none, some (.int a3), some (.long x4), none, none, some (.int x7), none, none]) ⟨rfl, ⟨rfl, ⟨rfl, ⟨rfl, ⟨rfl, trivial⟩⟩⟩⟩⟩ ?_
        exact s_Model_judge_L102    hJ
      · have hJ := hJ.2 c
        refine zq_iload d_Model_judge_62 rfl ?_
        refine zq_lload d_Model_judge_64 rfl ?_
        refine zq_iload d_Model_judge_66 rfl ?_
        refine zq_lshr d_Model_judge_68 ?_
        refine zq_lconst (v := 1) d_Model_judge_69 zk_l1 ?_
        refine zq_land d_Model_judge_70 ?_
        refine zq_lconst (v := 1) d_Model_judge_71 zk_l1 ?_
        refine zq_lcmp d_Model_judge_72 ?_
        refine zq_if_ne (tgt := 92) d_Model_judge_73 (by decide) (fun c => ?_) (fun c => ?_)
        · have hJ := hJ.1 c
          refine zq_iconst (v := 0) d_Model_judge_92 zk_i0 ?_
          refine zr_less (L' := [some (.ref 33), some (.long a1), none, some (.int a3), some (.long x4), none, some (.int x6), none, some (.int x8), none]) ⟨rfl, ⟨rfl, ⟨rfl, ⟨rfl, ⟨rfl, ⟨rfl, trivial⟩⟩⟩⟩⟩⟩ ?_
          exact s_Model_judge_L93  ih  hJ
        · have hJ := hJ.2 c
          refine zq_iload d_Model_judge_76 rfl ?_
          refine zq_aload_n d_Model_judge_78 rfl rfl ?_
          refine zq_aload_n d_Model_judge_79 rfl rfl ?_
          refine zm_getI fg_Model_184 d_Model_judge_80 zs_Model rfl ?_
          refine zr_cvI (q := 33) (as := [.int (m.1 33 32)]) (st := [.int x8, .int x7]) d_Model_judge_83 cc_Model_194 cv_Model_isClosed zs_Model (s_Model_isClosed  hJ) rfl ⟨Nat.le_of_ble_eq_true rfl, Nat.le_of_ble_eq_true rfl⟩ (Nat.le_of_ble_eq_true rfl) ⟨Nat.le_refl _, Nat.le_refl _⟩ rfl (fun r6 m5 hJ => ?_)
          refine zr_csI (as := [.int x8, .int r6]) (st := [.int x7]) d_Model_judge_86 cc_Model_250 cs_Model_han (s_Model_han  hJ) rfl ⟨Nat.le_of_ble_eq_true rfl, Nat.le_of_ble_eq_true rfl⟩ (Nat.le_of_ble_eq_true rfl) ⟨Nat.le_refl _, Nat.le_refl _⟩ rfl (fun r8 m7 hJ => ?_)
          refine zq_goto (tgt := 93) d_Model_judge_89 (by decide) ?_
          refine zr_less (L' := [some (.ref 33), some (.long a1), none, some (.int a3), some (.long x4), none, some (.int x6), none, some (.int x8), none]) ⟨rfl, ⟨rfl, ⟨rfl, ⟨rfl, ⟨rfl, ⟨rfl, trivial⟩⟩⟩⟩⟩⟩ ?_
          exact s_Model_judge_L93  ih  hJ
set_option maxHeartbeats 400000 in
theorem s_Model_judge_L45 {g : zk_T} {a1 : Int64} {a3 : Int32} {K : zm → Prop} {x4 : Int64} {x6 : Int32} {t0 : Int32} {m : zm} (hJ : j_Model_judge_L45 a1 a3  K x4 x6 t0 m) : zq_V (zk_g g) ("RiichiTableModel", prog_9_method_44_code, 10, none, false, zq_rm 2 0 0) 0 0 45 [some (.ref 33), some (.long a1), none, some (.int a3), some (.long x4), none, some (.int x6), none, none, none] [.int t0] (zm_hp m) (zm_QV K) := by
  unfold j_Model_judge_L45 at hJ
  refine zr_istore (L' := [some (.ref 33), some (.long a1), none, some (.int a3), some (.long x4), none, some (.int x6), some (.int t0), none, none]) d_Model_judge_45 (Nat.le_of_ble_eq_true rfl) rfl ?_
  refine zq_iconst (v := 0) d_Model_judge_47 zk_i0 ?_
  refine zr_istore (L' := [some (.ref 33), some (.long a1), none, some (.int a3), some (.long x4), none, some (.int x6), some (.int t0), some (.int 0), none]) d_Model_judge_48 (Nat.le_of_ble_eq_true rfl) rfl ?_
  refine zr_less (L' := [some (.ref 33), some (.long a1), none, some (.int a3), some (.long x4), none, some (.int x6), some (.int t0), some (.int 0), none]) ⟨rfl, ⟨rfl, ⟨rfl, ⟨rfl, ⟨rfl, ⟨rfl, ⟨rfl, trivial⟩⟩⟩⟩⟩⟩⟩ ?_
  obtain ⟨n50, hJ⟩ := hJ
  exact s_Model_judge_L50   n50  hJ
set_option maxHeartbeats 400000 in
theorem s_Model_judge_L29 {g : zk_T} {a1 : Int64} {a3 : Int32} {K : zm → Prop} {x4 : Int64} {t0 : Int32} {m : zm} (hJ : j_Model_judge_L29 a1 a3  K x4 t0 m) : zq_V (zk_g g) ("RiichiTableModel", prog_9_method_44_code, 10, none, false, zq_rm 2 0 0) 0 0 29 [some (.ref 33), some (.long a1), none, some (.int a3), some (.long x4), none, none, none, none, none] [.int t0] (zm_hp m) (zm_QV K) := by
  unfold j_Model_judge_L29 at hJ
  refine zr_istore (L' := [some (.ref 33), some (.long a1), none, some (.int a3), some (.long x4), none, some (.int t0), none, none, none]) d_Model_judge_29 (Nat.le_of_ble_eq_true rfl) rfl ?_
  refine zq_iload d_Model_judge_31 rfl ?_
  refine zq_if_eq (tgt := 41) d_Model_judge_33 (by decide) (fun c => ?_) (fun c => ?_)
  · have hJ := hJ.1 c
    refine zq_aload_n d_Model_judge_41 rfl rfl ?_
    refine zr_cvI (q := 33) (as := []) (st := []) d_Model_judge_42 cc_Model_247 cv_Model_doras zs_Model (s_Model_doras  hJ) rfl ⟨Nat.le_of_ble_eq_true rfl, Nat.le_of_ble_eq_true rfl⟩ (Nat.le_of_ble_eq_true rfl) ⟨Nat.le_refl _, Nat.le_refl _⟩ rfl (fun r4 m3 hJ => ?_)
    refine zr_less (L' := [some (.ref 33), some (.long a1), none, some (.int a3), some (.long x4), none, some (.int t0), none, none, none]) ⟨rfl, ⟨rfl, ⟨rfl, ⟨rfl, ⟨rfl, trivial⟩⟩⟩⟩⟩ ?_
    exact s_Model_judge_L45    hJ
  · have hJ := hJ.2 c
    refine zq_bipush (v := 13) d_Model_judge_36 zk_b13 ?_
    refine zq_goto (tgt := 45) d_Model_judge_38 (by decide) ?_
    refine zr_less (L' := [some (.ref 33), some (.long a1), none, some (.int a3), some (.long x4), none, some (.int t0), none, none, none]) ⟨rfl, ⟨rfl, ⟨rfl, ⟨rfl, ⟨rfl, trivial⟩⟩⟩⟩⟩ ?_
    exact s_Model_judge_L45    hJ
set_option maxHeartbeats 400000 in
theorem s_Model_judge {g : zk_T} {a1 : Int64} {a3 : Int32} {K : zm → Prop} {m : zm} (hJ : j_Model_judge a1 a3 m K) : zq_Mt (zk_g g) y_Model_judge 2 0 0 [.ref 33, .long a1, .int a3] (zm_hp m) (zm_QV K) := by
  unfold j_Model_judge at hJ
  refine zq_meth (ini := false) rfl (fun h => by cases h) (Nat.le_of_ble_eq_true rfl) ?_
  refine zr_L (F := ("RiichiTableModel", prog_9_method_44_code, 10, none, false, zq_rm 2 0 0)) (L' := [some (.ref 33), some (.long a1), none, some (.int a3), none, none, none, none, none, none]) rfl ?_
  refine zq_lload_n d_Model_judge_0 rfl rfl ?_
  refine zr_csL (as := [.long a1]) (st := []) d_Model_judge_1 cc_Model_243 cs_Model_counted (s_Model_counted  hJ) rfl ⟨Nat.le_of_ble_eq_true rfl, Nat.le_of_ble_eq_true rfl⟩ (Nat.le_of_ble_eq_true rfl) ⟨Nat.le_refl _, Nat.le_refl _⟩ rfl (fun r2 m1 hJ => ?_)
  refine zr_lstore (L' := [some (.ref 33), some (.long a1), none, some (.int a3), some (.long r2), none, none, none, none, none]) d_Model_judge_4 (Nat.le_of_ble_eq_true rfl) rfl ?_
  refine zq_lload d_Model_judge_6 rfl ?_
  refine zq_lconst (v := 0) d_Model_judge_8 zk_l0 ?_
  refine zq_lcmp d_Model_judge_9 ?_
  refine zq_if_ne (tgt := 14) d_Model_judge_10 (by decide) (fun c => ?_) (fun c => ?_)
  · have hJ := hJ.1 c
    refine zq_lload d_Model_judge_14 rfl ?_
    refine zq_bipush (v := 30) d_Model_judge_16 zk_b30 ?_
    refine zq_lshr d_Model_judge_18 ?_
    refine zq_lconst (v := 0) d_Model_judge_19 zk_l0 ?_
    refine zq_lcmp d_Model_judge_20 ?_
    refine zq_if_eq (tgt := 28) d_Model_judge_21 (by decide) (fun c => ?_) (fun c => ?_)
    · have hJ := hJ.1 c
      refine zq_iconst (v := 0) d_Model_judge_28 zk_i0 ?_
      refine zr_less (L' := [some (.ref 33), some (.long a1), none, some (.int a3), some (.long r2), none, none, none, none, none]) ⟨rfl, ⟨rfl, ⟨rfl, ⟨rfl, trivial⟩⟩⟩⟩ ?_
      exact s_Model_judge_L29    hJ
    · have hJ := hJ.2 c
      refine zq_iconst (v := 1) d_Model_judge_24 zk_i1 ?_
      refine zq_goto (tgt := 29) d_Model_judge_25 (by decide) ?_
      refine zr_less (L' := [some (.ref 33), some (.long a1), none, some (.int a3), some (.long r2), none, none, none, none, none]) ⟨rfl, ⟨rfl, ⟨rfl, ⟨rfl, trivial⟩⟩⟩⟩ ?_
      exact s_Model_judge_L29    hJ
  · have hJ := hJ.2 c
    exact zq_vret d_Model_judge_13 rfl (Nat.le_refl _) (Nat.le_refl _) ⟨_, rfl, rfl, hJ⟩
set_option maxHeartbeats 400000 in
theorem s_Model_judgeSets_L100 {g : zk_T} {a1 : Int64} {R18 : Int32 → Int32 → zm → Prop} {K : zm → Prop} (hR18 : ∀ {x3 : Int32} {x4 : Int32} {m : zm}, R18 x3 x4 m → zq_V (zk_g g) ("RiichiTableModel", prog_9_method_45_code, 7, none, false, zq_rm 3 0 0) 0 0 18 [some (.ref 33), some (.long a1), none, some (.int x3), some (.int x4), none, none] [] (zm_hp m) (zm_QV K)) {x3 : Int32} {x4 : Int32} {t0 : Int32} {t1 : Int32} {m : zm} (hJ : j_Model_judgeSets_L100 a1 R18 K x3 x4 t0 t1 m) : zq_V (zk_g g) ("RiichiTableModel", prog_9_method_45_code, 7, none, false, zq_rm 3 0 0) 0 0 100 [some (.ref 33), some (.long a1), none, some (.int x3), some (.int x4), none, none] [.int t0, .int t1, .ref 55] (zm_hp m) (zm_QV K) := by
  unfold j_Model_judgeSets_L100 at hJ
  obtain ⟨hb, hJ⟩ := hJ
  obtain ⟨hz, hJ⟩ := hJ
  refine zr_zst d_Model_judgeSets_100 (rfl : zm_sh[55]? = some (.inl (2, 8, .inl (fun _ => 0)))) hb hz (fun m6 hm6 => ?_)
  have hJ := hJ m6 hm6
  refine zr_iinc (d' := 1) d_Model_judgeSets_101 zk_i1 rfl (Nat.le_of_ble_eq_true rfl) (fun y7 hy7 => ?_)
  have hJ := hJ y7 hy7
  refine zr_L (L' := [some (.ref 33), some (.long a1), none, some (.int x3), some (.int y7), none, none]) rfl ?_
  refine zq_goto (tgt := 18) d_Model_judgeSets_104 (by decide) ?_
  refine zr_less (L' := [some (.ref 33), some (.long a1), none, some (.int x3), some (.int y7), none, none]) ⟨rfl, ⟨rfl, ⟨rfl, ⟨rfl, trivial⟩⟩⟩⟩ ?_
  exact hR18  hJ
set_option maxHeartbeats 400000 in
theorem s_Model_judgeSets_L64 {g : zk_T} {a1 : Int64} {R18 : Int32 → Int32 → zm → Prop} {K : zm → Prop} (hR18 : ∀ {x3 : Int32} {x4 : Int32} {m : zm}, R18 x3 x4 m → zq_V (zk_g g) ("RiichiTableModel", prog_9_method_45_code, 7, none, false, zq_rm 3 0 0) 0 0 18 [some (.ref 33), some (.long a1), none, some (.int x3), some (.int x4), none, none] [] (zm_hp m) (zm_QV K)) {x3 : Int32} {x4 : Int32} {t0 : Int32} {m : zm} (hJ : j_Model_judgeSets_L64 a1 R18 K x3 x4 t0 m) : zq_V (zk_g g) ("RiichiTableModel", prog_9_method_45_code, 7, none, false, zq_rm 3 0 0) 0 0 64 [some (.ref 33), some (.long a1), none, some (.int x3), some (.int x4), none, none] [.int t0, .ref 33] (zm_hp m) (zm_QV K) := by
  unfold j_Model_judgeSets_L64 at hJ
  refine zq_aload_n d_Model_judgeSets_64 rfl rfl ?_
  refine zm_getR fg_Model_22 d_Model_judgeSets_65 zs_Model rfl ?_
  refine zq_iload d_Model_judgeSets_68 rfl ?_
  obtain ⟨hb, hJ⟩ := hJ
  refine zm_ald d_Model_judgeSets_70 (rfl : zm_sh[38]? = some (.inl (0, 16, .inl (fun _ => 0)))) hb ?_
  refine zr_cvV (q := 33) (as := [.int t0, .int (m.1 38 (Int32.toNatClampNeg x4))]) (st := []) d_Model_judgeSets_71 cc_Model_143 cv_Model_add zs_Model (s_Model_add  hJ) rfl ⟨Nat.le_of_ble_eq_true rfl, Nat.le_of_ble_eq_true rfl⟩ (Nat.le_of_ble_eq_true rfl) ⟨Nat.le_refl _, Nat.le_refl _⟩ rfl (fun m5 hJ => ?_)
  refine zq_aload_n d_Model_judgeSets_74 rfl rfl ?_
  refine zm_getR fg_Model_75 d_Model_judgeSets_75 zs_Model rfl ?_
  refine zq_aload_n d_Model_judgeSets_78 rfl rfl ?_
  refine zm_getI fg_Model_140 d_Model_judgeSets_79 zs_Model rfl ?_
  refine zq_iconst (v := 1) d_Model_judgeSets_82 zk_i1 ?_
  refine zq_isub d_Model_judgeSets_83 ?_
  refine zq_aload_n d_Model_judgeSets_84 rfl rfl ?_
  refine zm_getR fg_Model_25 d_Model_judgeSets_85 zs_Model rfl ?_
  refine zq_iload d_Model_judgeSets_88 rfl ?_
  obtain ⟨hb, hJ⟩ := hJ
  refine zm_ald d_Model_judgeSets_90 (rfl : zm_sh[39]? = some (.inl (0, 16, .inl (fun _ => 0)))) hb ?_
  refine zq_iconst (v := 3) d_Model_judgeSets_91 zk_i3 ?_
  refine zq_icmp_eq (tgt := 99) d_Model_judgeSets_92 (by decide) (fun c => ?_) (fun c => ?_)
  · have hJ := hJ.1 c
    refine zq_iconst (v := 0) d_Model_judgeSets_99 zk_i0 ?_
    refine zr_less (L' := [some (.ref 33), some (.long a1), none, some (.int x3), some (.int x4), none, none]) ⟨rfl, ⟨rfl, ⟨rfl, ⟨rfl, trivial⟩⟩⟩⟩ ?_
    exact s_Model_judgeSets_L100  hR18  hJ
  · have hJ := hJ.2 c
    refine zq_iconst (v := 1) d_Model_judgeSets_95 zk_i1 ?_
    refine zq_goto (tgt := 100) d_Model_judgeSets_96 (by decide) ?_
    refine zr_less (L' := [some (.ref 33), some (.long a1), none, some (.int x3), some (.int x4), none, none]) ⟨rfl, ⟨rfl, ⟨rfl, ⟨rfl, trivial⟩⟩⟩⟩ ?_
    exact s_Model_judgeSets_L100  hR18  hJ
set_option maxHeartbeats 400000 in
theorem s_Model_judgeSets_L259 {g : zk_T} {a1 : Int64} {R112 : zm → Prop} {K : zm → Prop} (hR112 : ∀ {m : zm}, R112  m → zq_V (zk_g g) ("RiichiTableModel", prog_9_method_45_code, 7, none, false, zq_rm 3 0 0) 0 0 112 [some (.ref 33), some (.long a1), none, none, none, none, none] [] (zm_hp m) (zm_QV K)) {m : zm} (hJ : j_Model_judgeSets_L259 a1 R112 K  m) : zq_V (zk_g g) ("RiichiTableModel", prog_9_method_45_code, 7, none, false, zq_rm 3 0 0) 0 0 259 [some (.ref 33), some (.long a1), none, none, none, none, none] [] (zm_hp m) (zm_QV K) := by
  unfold j_Model_judgeSets_L259 at hJ
  refine zq_aload_n d_Model_judgeSets_259 rfl rfl ?_
  refine zq_dup d_Model_judgeSets_260 rfl ?_
  refine zm_getI fg_Model_210 d_Model_judgeSets_261 zs_Model rfl ?_
  refine zq_iconst (v := 1) d_Model_judgeSets_264 zk_i1 ?_
  refine zq_iadd d_Model_judgeSets_265 ?_
  refine zr_putI fl_Model_210 d_Model_judgeSets_266 zs_Model rfl rfl (fun m18 hm18 => ?_)
  have hJ := hJ m18 hm18
  refine zq_goto (tgt := 112) d_Model_judgeSets_269 (by decide) ?_
  refine zr_less (L' := [some (.ref 33), some (.long a1), none, none, none, none, none]) ⟨rfl, ⟨rfl, trivial⟩⟩ ?_
  exact hR112  hJ
set_option maxHeartbeats 400000 in
theorem s_Model_judgeSets_L224 {g : zk_T} {a1 : Int64} {R112 : zm → Prop} {K : zm → Prop} (hR112 : ∀ {m : zm}, R112  m → zq_V (zk_g g) ("RiichiTableModel", prog_9_method_45_code, 7, none, false, zq_rm 3 0 0) 0 0 112 [some (.ref 33), some (.long a1), none, none, none, none, none] [] (zm_hp m) (zm_QV K)) {t0 : Int32} {m : zm} (hJ : j_Model_judgeSets_L224 a1 R112 K t0 m) : zq_V (zk_g g) ("RiichiTableModel", prog_9_method_45_code, 7, none, false, zq_rm 3 0 0) 0 0 224 [some (.ref 33), some (.long a1), none, none, none, none, none] [.int t0] (zm_hp m) (zm_QV K) := by
  unfold j_Model_judgeSets_L224 at hJ
  refine zr_istore (L' := [some (.ref 33), some (.long a1), none, none, some (.int t0), none, none]) d_Model_judgeSets_224 (Nat.le_of_ble_eq_true rfl) rfl ?_
  refine zq_iload d_Model_judgeSets_226 rfl ?_
  refine zq_if_eq (tgt := 259) d_Model_judgeSets_228 (by decide) (fun c => ?_) (fun c => ?_)
  · have hJ := hJ.1 c
    refine zr_less (L' := [some (.ref 33), some (.long a1), none, none, none, none, none]) ⟨rfl, ⟨rfl, trivial⟩⟩ ?_
    exact s_Model_judgeSets_L259  hR112  hJ
  · have hJ := hJ.2 c
    refine zq_lload_n d_Model_judgeSets_231 rfl rfl ?_
    refine zq_aload_n d_Model_judgeSets_232 rfl rfl ?_
    refine zr_cvL (q := 33) (as := []) (st := [.long a1]) d_Model_judgeSets_233 cc_Model_270 cv_Model_ofRuns zs_Model (s_Model_ofRuns  hJ) rfl ⟨Nat.le_of_ble_eq_true rfl, Nat.le_of_ble_eq_true rfl⟩ (Nat.le_of_ble_eq_true rfl) ⟨Nat.le_refl _, Nat.le_refl _⟩ rfl (fun r9 m8 hJ => ?_)
    refine zq_lor d_Model_judgeSets_236 ?_
    refine zq_aload_n d_Model_judgeSets_237 rfl rfl ?_
    refine zr_cvL (q := 33) (as := []) (st := [.long (a1 ||| r9)]) d_Model_judgeSets_238 cc_Model_274 cv_Model_ofTriplets zs_Model (s_Model_ofTriplets  hJ) rfl ⟨Nat.le_of_ble_eq_true rfl, Nat.le_of_ble_eq_true rfl⟩ (Nat.le_of_ble_eq_true rfl) ⟨Nat.le_refl _, Nat.le_refl _⟩ rfl (fun r11 m10 hJ => ?_)
    refine zq_lor d_Model_judgeSets_241 ?_
    refine zr_topl (fun y12 hy12 => ?_)
    have hJ := hJ y12 hy12
    refine zr_lstore (L' := [some (.ref 33), some (.long a1), none, none, some (.int t0), some (.long y12), none]) d_Model_judgeSets_242 (Nat.le_of_ble_eq_true rfl) rfl ?_
    refine zq_aload_n d_Model_judgeSets_244 rfl rfl ?_
    refine zq_lload d_Model_judgeSets_245 rfl ?_
    refine zq_aload_n d_Model_judgeSets_247 rfl rfl ?_
    refine zq_lload d_Model_judgeSets_248 rfl ?_
    refine zr_csL (as := [.long y12]) (st := [.ref 33, .long y12, .ref 33]) d_Model_judgeSets_250 cc_Model_243 cs_Model_counted (s_Model_counted  hJ) rfl ⟨Nat.le_of_ble_eq_true rfl, Nat.le_of_ble_eq_true rfl⟩ (Nat.le_of_ble_eq_true rfl) ⟨Nat.le_refl _, Nat.le_refl _⟩ rfl (fun r14 m13 hJ => ?_)
    refine zr_cvI (q := 33) (as := [.long r14]) (st := [.long y12, .ref 33]) d_Model_judgeSets_253 cc_Model_277 cv_Model_fuOfSets zs_Model (s_Model_fuOfSets  hJ) rfl ⟨Nat.le_of_ble_eq_true rfl, Nat.le_of_ble_eq_true rfl⟩ (Nat.le_of_ble_eq_true rfl) ⟨Nat.le_refl _, Nat.le_refl _⟩ rfl (fun r16 m15 hJ => ?_)
    refine zr_cvV (q := 33) (as := [.long y12, .int r16]) (st := []) d_Model_judgeSets_256 cc_Model_281 cv_Model_judge zs_Model (s_Model_judge  hJ) rfl ⟨Nat.le_of_ble_eq_true rfl, Nat.le_of_ble_eq_true rfl⟩ (Nat.le_of_ble_eq_true rfl) ⟨Nat.le_refl _, Nat.le_refl _⟩ rfl (fun m17 hJ => ?_)
    refine zr_less (L' := [some (.ref 33), some (.long a1), none, none, none, none, none]) ⟨rfl, ⟨rfl, trivial⟩⟩ ?_
    exact s_Model_judgeSets_L259  hR112  hJ
set_option maxHeartbeats 400000 in
theorem s_Model_judgeSets_L199 {g : zk_T} {a1 : Int64} {R112 : zm → Prop} {K : zm → Prop} (hR112 : ∀ {m : zm}, R112  m → zq_V (zk_g g) ("RiichiTableModel", prog_9_method_45_code, 7, none, false, zq_rm 3 0 0) 0 0 112 [some (.ref 33), some (.long a1), none, none, none, none, none] [] (zm_hp m) (zm_QV K)) {m : zm} (hJ : j_Model_judgeSets_L199 a1 R112 K  m) : zq_V (zk_g g) ("RiichiTableModel", prog_9_method_45_code, 7, none, false, zq_rm 3 0 0) 0 0 199 [some (.ref 33), some (.long a1), none, none, none, none, none] [] (zm_hp m) (zm_QV K) := by
  unfold j_Model_judgeSets_L199 at hJ
  refine zq_iconst (v := 0) d_Model_judgeSets_199 zk_i0 ?_
  refine zq_goto (tgt := 224) d_Model_judgeSets_200 (by decide) ?_
  refine zr_less (L' := [some (.ref 33), some (.long a1), none, none, none, none, none]) ⟨rfl, ⟨rfl, trivial⟩⟩ ?_
  exact s_Model_judgeSets_L224  hR112  hJ
set_option maxHeartbeats 400000 in
theorem s_Model_judgeSets_L112 {g : zk_T} {a1 : Int64} {K : zm → Prop} : ∀ (n : Nat) {m : zm}, j_Model_judgeSets_L112 a1  K n  m → zq_V (zk_g g) ("RiichiTableModel", prog_9_method_45_code, 7, none, false, zq_rm 3 0 0) 0 0 112 [some (.ref 33), some (.long a1), none, none, none, none, none] [] (zm_hp m) (zm_QV K) := by
  intro n
  induction n with
  | zero =>
    intro m hJ
    exact False.elim hJ
  | succ n ih =>
    intro m hJ
    rw [j_Model_judgeSets_L112] at hJ
    refine zq_aload_n d_Model_judgeSets_112 rfl rfl ?_
    refine zm_getI fg_Model_210 d_Model_judgeSets_113 zs_Model rfl ?_
    refine zq_aload_n d_Model_judgeSets_116 rfl rfl ?_
    refine zm_getI fg_Model_150 d_Model_judgeSets_117 zs_Model rfl ?_
    refine zq_icmp_ge (tgt := 272) d_Model_judgeSets_120 (by decide) (fun c => ?_) (fun c => ?_)
    · have hJ := hJ.1 c
      exact zq_vret d_Model_judgeSets_272 rfl (Nat.le_refl _) (Nat.le_refl _) ⟨_, rfl, rfl, hJ⟩
    · have hJ := hJ.2 c
      refine zq_aload_n d_Model_judgeSets_123 rfl rfl ?_
      refine zm_getI fg_Model_210 d_Model_judgeSets_124 zs_Model rfl ?_
      refine zq_if_ge (tgt := 149) d_Model_judgeSets_127 (by decide) (fun c => ?_) (fun c => ?_)
      · have hJ := hJ.1 c
        refine zq_aload_n d_Model_judgeSets_149 rfl rfl ?_
        refine zm_getR fg_Model_72 d_Model_judgeSets_150 zs_Model rfl ?_
        refine zq_aload_n d_Model_judgeSets_153 rfl rfl ?_
        refine zm_getI fg_Model_210 d_Model_judgeSets_154 zs_Model rfl ?_
        obtain ⟨hb, hJ⟩ := hJ
        refine zm_ald d_Model_judgeSets_157 (rfl : zm_sh[54]? = some (.inl (0, 8, .inl (fun _ => 0)))) hb ?_
        refine zq_if_ne (tgt := 203) d_Model_judgeSets_158 (by decide) (fun c => ?_) (fun c => ?_)
        · have hJ := hJ.1 c
          refine zq_aload_n d_Model_judgeSets_203 rfl rfl ?_
          refine zm_getI fg_Model_222 d_Model_judgeSets_204 zs_Model rfl ?_
          refine zq_aload_n d_Model_judgeSets_207 rfl rfl ?_
          refine zm_getR fg_Model_69 d_Model_judgeSets_208 zs_Model rfl ?_
          refine zq_aload_n d_Model_judgeSets_211 rfl rfl ?_
          refine zm_getI fg_Model_210 d_Model_judgeSets_212 zs_Model rfl ?_
          obtain ⟨hb, hJ⟩ := hJ
          refine zm_ald d_Model_judgeSets_215 (rfl : zm_sh[53]? = some (.inl (0, 8, .inl (fun _ => 0)))) hb ?_
          refine zq_icmp_ne (tgt := 223) d_Model_judgeSets_216 (by decide) (fun c => ?_) (fun c => ?_)
          · have hJ := hJ.1 c
            refine zq_iconst (v := 0) d_Model_judgeSets_223 zk_i0 ?_
            refine zr_less (L' := [some (.ref 33), some (.long a1), none, none, none, none, none]) ⟨rfl, ⟨rfl, trivial⟩⟩ ?_
            exact s_Model_judgeSets_L224  ih  hJ
          · have hJ := hJ.2 c
            refine zq_iconst (v := 1) d_Model_judgeSets_219 zk_i1 ?_
            refine zq_goto (tgt := 224) d_Model_judgeSets_220 (by decide) ?_
            refine zr_less (L' := [some (.ref 33), some (.long a1), none, none, none, none, none]) ⟨rfl, ⟨rfl, trivial⟩⟩ ?_
            exact s_Model_judgeSets_L224  ih  hJ
        · have hJ := hJ.2 c
          refine zq_aload_n d_Model_judgeSets_161 rfl rfl ?_
          refine zm_getI fg_Model_222 d_Model_judgeSets_162 zs_Model rfl ?_
          refine zq_aload_n d_Model_judgeSets_165 rfl rfl ?_
          refine zm_getR fg_Model_69 d_Model_judgeSets_166 zs_Model rfl ?_
          refine zq_aload_n d_Model_judgeSets_169 rfl rfl ?_
          refine zm_getI fg_Model_210 d_Model_judgeSets_170 zs_Model rfl ?_
          obtain ⟨hb, hJ⟩ := hJ
          refine zm_ald d_Model_judgeSets_173 (rfl : zm_sh[53]? = some (.inl (0, 8, .inl (fun _ => 0)))) hb ?_
          refine zq_icmp_lt (tgt := 199) d_Model_judgeSets_174 (by decide) (fun c => ?_) (fun c => ?_)
          · have hJ := hJ.1 c
            refine zr_less (L' := [some (.ref 33), some (.long a1), none, none, none, none, none]) ⟨rfl, ⟨rfl, trivial⟩⟩ ?_
            exact s_Model_judgeSets_L199  ih  hJ
          · have hJ := hJ.2 c
            refine zq_aload_n d_Model_judgeSets_177 rfl rfl ?_
            refine zm_getI fg_Model_222 d_Model_judgeSets_178 zs_Model rfl ?_
            refine zq_aload_n d_Model_judgeSets_181 rfl rfl ?_
            refine zm_getR fg_Model_69 d_Model_judgeSets_182 zs_Model rfl ?_
            refine zq_aload_n d_Model_judgeSets_185 rfl rfl ?_
            refine zm_getI fg_Model_210 d_Model_judgeSets_186 zs_Model rfl ?_
            obtain ⟨hb, hJ⟩ := hJ
            refine zm_ald d_Model_judgeSets_189 (rfl : zm_sh[53]? = some (.inl (0, 8, .inl (fun _ => 0)))) hb ?_
            refine zq_iconst (v := 2) d_Model_judgeSets_190 zk_i2 ?_
            refine zq_iadd d_Model_judgeSets_191 ?_
            refine zq_icmp_gt (tgt := 199) d_Model_judgeSets_192 (by decide) (fun c => ?_) (fun c => ?_)
            · have hJ := hJ.1 c
              refine zr_less (L' := [some (.ref 33), some (.long a1), none, none, none, none, none]) ⟨rfl, ⟨rfl, trivial⟩⟩ ?_
              exact s_Model_judgeSets_L199  ih  hJ
            · have hJ := hJ.2 c
              refine zq_iconst (v := 1) d_Model_judgeSets_195 zk_i1 ?_
              refine zq_goto (tgt := 224) d_Model_judgeSets_196 (by decide) ?_
              refine zr_less (L' := [some (.ref 33), some (.long a1), none, none, none, none, none]) ⟨rfl, ⟨rfl, trivial⟩⟩ ?_
              exact s_Model_judgeSets_L224  ih  hJ
      · have hJ := hJ.2 c
        refine zq_aload_n d_Model_judgeSets_130 rfl rfl ?_
        refine zm_getI fg_Model_137 d_Model_judgeSets_131 zs_Model rfl ?_
        refine zq_aload_n d_Model_judgeSets_134 rfl rfl ?_
        refine zm_getI fg_Model_222 d_Model_judgeSets_135 zs_Model rfl ?_
        refine zq_icmp_ne (tgt := 145) d_Model_judgeSets_138 (by decide) (fun c => ?_) (fun c => ?_)
        · have hJ := hJ.1 c
          refine zq_iconst (v := 0) d_Model_judgeSets_145 zk_i0 ?_
          refine zq_goto (tgt := 224) d_Model_judgeSets_146 (by decide) ?_
          refine zr_less (L' := [some (.ref 33), some (.long a1), none, none, none, none, none]) ⟨rfl, ⟨rfl, trivial⟩⟩ ?_
          exact s_Model_judgeSets_L224  ih  hJ
        · have hJ := hJ.2 c
          refine zq_iconst (v := 1) d_Model_judgeSets_141 zk_i1 ?_
          refine zq_goto (tgt := 224) d_Model_judgeSets_142 (by decide) ?_
          refine zr_less (L' := [some (.ref 33), some (.long a1), none, none, none, none, none]) ⟨rfl, ⟨rfl, trivial⟩⟩ ?_
          exact s_Model_judgeSets_L224  ih  hJ
set_option maxHeartbeats 400000 in
theorem s_Model_judgeSets_L18 {g : zk_T} {a1 : Int64} {K : zm → Prop} : ∀ (n : Nat) {x3 : Int32} {x4 : Int32} {m : zm}, j_Model_judgeSets_L18 a1  K n x3 x4 m → zq_V (zk_g g) ("RiichiTableModel", prog_9_method_45_code, 7, none, false, zq_rm 3 0 0) 0 0 18 [some (.ref 33), some (.long a1), none, some (.int x3), some (.int x4), none, none] [] (zm_hp m) (zm_QV K) := by
  intro n
  induction n with
  | zero =>
    intro x3 x4 m hJ
    exact False.elim hJ
  | succ n ih =>
    intro x3 x4 m hJ
    rw [j_Model_judgeSets_L18] at hJ
    refine zq_iload d_Model_judgeSets_18 rfl ?_
    refine zq_iconst (v := 4) d_Model_judgeSets_20 zk_i4 ?_
    refine zq_iload_n d_Model_judgeSets_21 rfl rfl ?_
    refine zq_imul d_Model_judgeSets_22 ?_
    refine zq_aload_n d_Model_judgeSets_23 rfl rfl ?_
    refine zm_getR fg_Model_19 d_Model_judgeSets_24 zs_Model rfl ?_
    refine zq_iload_n d_Model_judgeSets_27 rfl rfl ?_
    obtain ⟨hb, hJ⟩ := hJ
    refine zm_ald d_Model_judgeSets_28 (rfl : zm_sh[37]? = some (.inl (0, 4, .inl (fun _ => 0)))) hb ?_
    refine zq_iadd d_Model_judgeSets_29 ?_
    refine zq_icmp_ge (tgt := 107) d_Model_judgeSets_30 (by decide) (fun c => ?_) (fun c => ?_)
    · have hJ := hJ.1 c
      refine zq_aload_n d_Model_judgeSets_107 rfl rfl ?_
      refine zq_iconst (v := (-1)) d_Model_judgeSets_108 zk_im1 ?_
      refine zr_putI fl_Model_210 d_Model_judgeSets_109 zs_Model rfl rfl (fun m4 hm4 => ?_)
      have hJ := hJ m4 hm4
      refine zr_less (L' := [some (.ref 33), some (.long a1), none, none, none, none, none]) ⟨rfl, ⟨rfl, trivial⟩⟩ ?_
      obtain ⟨n112, hJ⟩ := hJ
      exact s_Model_judgeSets_L112   n112  hJ
    · have hJ := hJ.2 c
      refine zq_aload_n d_Model_judgeSets_33 rfl rfl ?_
      refine zq_aload_n d_Model_judgeSets_34 rfl rfl ?_
      refine zm_getR fg_Model_25 d_Model_judgeSets_35 zs_Model rfl ?_
      refine zq_iload d_Model_judgeSets_38 rfl ?_
      obtain ⟨hb, hJ⟩ := hJ
      refine zm_ald d_Model_judgeSets_40 (rfl : zm_sh[39]? = some (.inl (0, 16, .inl (fun _ => 0)))) hb ?_
      refine zq_if_ne (tgt := 48) d_Model_judgeSets_41 (by decide) (fun c => ?_) (fun c => ?_)
      · have hJ := hJ.1 c
        refine zq_aload_n d_Model_judgeSets_48 rfl rfl ?_
        refine zm_getR fg_Model_25 d_Model_judgeSets_49 zs_Model rfl ?_
        refine zq_iload d_Model_judgeSets_52 rfl ?_
        obtain ⟨hb, hJ⟩ := hJ
        refine zm_ald d_Model_judgeSets_54 (rfl : zm_sh[39]? = some (.inl (0, 16, .inl (fun _ => 0)))) hb ?_
        refine zq_iconst (v := 1) d_Model_judgeSets_55 zk_i1 ?_
        refine zq_icmp_ne (tgt := 63) d_Model_judgeSets_56 (by decide) (fun c => ?_) (fun c => ?_)
        · have hJ := hJ.1 c
          refine zq_iconst (v := 2) d_Model_judgeSets_63 zk_i2 ?_
          refine zr_less (L' := [some (.ref 33), some (.long a1), none, some (.int x3), some (.int x4), none, none]) ⟨rfl, ⟨rfl, ⟨rfl, ⟨rfl, trivial⟩⟩⟩⟩ ?_
          exact s_Model_judgeSets_L64  ih  hJ
        · have hJ := hJ.2 c
          refine zq_iconst (v := 1) d_Model_judgeSets_59 zk_i1 ?_
          refine zq_goto (tgt := 64) d_Model_judgeSets_60 (by decide) ?_
          refine zr_less (L' := [some (.ref 33), some (.long a1), none, some (.int x3), some (.int x4), none, none]) ⟨rfl, ⟨rfl, ⟨rfl, ⟨rfl, trivial⟩⟩⟩⟩ ?_
          exact s_Model_judgeSets_L64  ih  hJ
      · have hJ := hJ.2 c
        refine zq_iconst (v := 0) d_Model_judgeSets_44 zk_i0 ?_
        refine zq_goto (tgt := 64) d_Model_judgeSets_45 (by decide) ?_
        refine zr_less (L' := [some (.ref 33), some (.long a1), none, some (.int x3), some (.int x4), none, none]) ⟨rfl, ⟨rfl, ⟨rfl, ⟨rfl, trivial⟩⟩⟩⟩ ?_
        exact s_Model_judgeSets_L64  ih  hJ
set_option maxHeartbeats 400000 in
theorem s_Model_judgeSets {g : zk_T} {a1 : Int64} {K : zm → Prop} {m : zm} (hJ : j_Model_judgeSets a1 m K) : zq_Mt (zk_g g) y_Model_judgeSets 3 0 0 [.ref 33, .long a1] (zm_hp m) (zm_QV K) := by
  unfold j_Model_judgeSets at hJ
  refine zq_meth (ini := false) rfl (fun h => by cases h) (Nat.le_of_ble_eq_true rfl) ?_
  refine zr_L (F := ("RiichiTableModel", prog_9_method_45_code, 7, none, false, zq_rm 3 0 0)) (L' := [some (.ref 33), some (.long a1), none, none, none, none, none]) rfl ?_
  refine zq_aload_n d_Model_judgeSets_0 rfl rfl ?_
  refine zm_getI fg_Model_184 d_Model_judgeSets_1 zs_Model rfl ?_
  refine zr_topi (fun y1 hy1 => ?_)
  have hJ := hJ y1 hy1
  refine zr_istore_n (L' := [some (.ref 33), some (.long a1), none, some (.int y1), none, none, none]) d_Model_judgeSets_4 rfl (Nat.le_of_ble_eq_true rfl) rfl ?_
  refine zq_aload_n d_Model_judgeSets_5 rfl rfl ?_
  refine zq_aload_n d_Model_judgeSets_6 rfl rfl ?_
  refine zm_getI fg_Model_150 d_Model_judgeSets_7 zs_Model rfl ?_
  refine zr_putI fl_Model_140 d_Model_judgeSets_10 zs_Model rfl rfl (fun m2 hm2 => ?_)
  have hJ := hJ m2 hm2
  refine zq_iconst (v := 4) d_Model_judgeSets_13 zk_i4 ?_
  refine zq_iload_n d_Model_judgeSets_14 rfl rfl ?_
  refine zq_imul d_Model_judgeSets_15 ?_
  refine zr_topi (fun y3 hy3 => ?_)
  have hJ := hJ y3 hy3
  refine zr_istore (L' := [some (.ref 33), some (.long a1), none, some (.int y1), some (.int y3), none, none]) d_Model_judgeSets_16 (Nat.le_of_ble_eq_true rfl) rfl ?_
  refine zr_less (L' := [some (.ref 33), some (.long a1), none, some (.int y1), some (.int y3), none, none]) ⟨rfl, ⟨rfl, ⟨rfl, ⟨rfl, trivial⟩⟩⟩⟩ ?_
  obtain ⟨n18, hJ⟩ := hJ
  exact s_Model_judgeSets_L18   n18  hJ
