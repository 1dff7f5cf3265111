set_option maxHeartbeats 400000 in
theorem s_Model_ofTiles_L158 {g : zk_T} {R12 : Int32 → Int32 → Int32 → Int32 → Int32 → zm → Prop} {K : Int64 → zm → Prop} (hR12 : ∀ {x1 : Int32} {x2 : Int32} {x3 : Int32} {x4 : Int32} {x5 : Int32} {m : zm}, R12 x1 x2 x3 x4 x5 m → zq_V (zk_g g) ("RiichiTableModel", prog_9_method_29_code, 9, (some .long), false, zq_rm 1 0 0) 0 0 12 [some (.ref 33), some (.int x1), some (.int x2), some (.int x3), some (.int x4), some (.int x5), none, none, none] [] (zm_hp m) (zm_QL K)) {x1 : Int32} {x2 : Int32} {x3 : Int32} {x5 : Int32} {t0 : Int32} {m : zm} (hJ : j_Model_ofTiles_L158  R12 K x1 x2 x3 x5 t0 m) : zq_V (zk_g g) ("RiichiTableModel", prog_9_method_29_code, 9, (some .long), false, zq_rm 1 0 0) 0 0 158 [some (.ref 33), some (.int x1), some (.int x2), some (.int x3), none, some (.int x5), none, none, none] [.int t0] (zm_hp m) (zm_QL K) := by
  unfold j_Model_ofTiles_L158 at hJ
  refine zr_istore (L' := [some (.ref 33), some (.int x1), some (.int x2), some (.int x3), some (.int t0), some (.int x5), none, none, none]) d_Model_ofTiles_158 (Nat.le_of_ble_eq_true rfl) rfl ?_
  refine zr_iinc (d' := 1) d_Model_ofTiles_160 zk_i1 rfl (Nat.le_of_ble_eq_true rfl) (fun y10 hy10 => ?_)
  have hJ := hJ y10 hy10
  refine zr_L (L' := [some (.ref 33), some (.int x1), some (.int x2), some (.int x3), some (.int t0), some (.int y10), none, none, none]) rfl ?_
  refine zq_goto (tgt := 12) d_Model_ofTiles_163 (by decide) ?_
  refine zr_less (L' := [some (.ref 33), some (.int x1), some (.int x2), some (.int x3), some (.int t0), some (.int y10), none, none, none]) ⟨rfl, ⟨rfl, ⟨rfl, ⟨rfl, ⟨rfl, ⟨rfl, trivial⟩⟩⟩⟩⟩⟩ ?_
  exact hR12  hJ
set_option maxHeartbeats 400000 in
theorem s_Model_ofTiles_L153 {g : zk_T} {R12 : Int32 → Int32 → Int32 → Int32 → Int32 → zm → Prop} {K : Int64 → zm → Prop} (hR12 : ∀ {x1 : Int32} {x2 : Int32} {x3 : Int32} {x4 : Int32} {x5 : Int32} {m : zm}, R12 x1 x2 x3 x4 x5 m → zq_V (zk_g g) ("RiichiTableModel", prog_9_method_29_code, 9, (some .long), false, zq_rm 1 0 0) 0 0 12 [some (.ref 33), some (.int x1), some (.int x2), some (.int x3), some (.int x4), some (.int x5), none, none, none] [] (zm_hp m) (zm_QL K)) {x1 : Int32} {x2 : Int32} {x3 : Int32} {x5 : Int32} {m : zm} (hJ : j_Model_ofTiles_L153  R12 K x1 x2 x3 x5 m) : zq_V (zk_g g) ("RiichiTableModel", prog_9_method_29_code, 9, (some .long), false, zq_rm 1 0 0) 0 0 153 [some (.ref 33), some (.int x1), some (.int x2), some (.int x3), none, some (.int x5), none, none, none] [] (zm_hp m) (zm_QL K) := by
  unfold j_Model_ofTiles_L153 at hJ
  refine zq_iconst (v := 1) d_Model_ofTiles_153 zk_i1 ?_
  refine zq_goto (tgt := 158) d_Model_ofTiles_154 (by decide) ?_
  refine zr_less (L' := [some (.ref 33), some (.int x1), some (.int x2), some (.int x3), none, some (.int x5), none, none, none]) ⟨rfl, ⟨rfl, ⟨rfl, ⟨rfl, ⟨rfl, trivial⟩⟩⟩⟩⟩ ?_
  exact s_Model_ofTiles_L158  hR12  hJ
set_option maxHeartbeats 400000 in
theorem s_Model_ofTiles_L157 {g : zk_T} {R12 : Int32 → Int32 → Int32 → Int32 → Int32 → zm → Prop} {K : Int64 → zm → Prop} (hR12 : ∀ {x1 : Int32} {x2 : Int32} {x3 : Int32} {x4 : Int32} {x5 : Int32} {m : zm}, R12 x1 x2 x3 x4 x5 m → zq_V (zk_g g) ("RiichiTableModel", prog_9_method_29_code, 9, (some .long), false, zq_rm 1 0 0) 0 0 12 [some (.ref 33), some (.int x1), some (.int x2), some (.int x3), some (.int x4), some (.int x5), none, none, none] [] (zm_hp m) (zm_QL K)) {x1 : Int32} {x2 : Int32} {x3 : Int32} {x5 : Int32} {m : zm} (hJ : j_Model_ofTiles_L157  R12 K x1 x2 x3 x5 m) : zq_V (zk_g g) ("RiichiTableModel", prog_9_method_29_code, 9, (some .long), false, zq_rm 1 0 0) 0 0 157 [some (.ref 33), some (.int x1), some (.int x2), some (.int x3), none, some (.int x5), none, none, none] [] (zm_hp m) (zm_QL K) := by
  unfold j_Model_ofTiles_L157 at hJ
  refine zq_iconst (v := 0) d_Model_ofTiles_157 zk_i0 ?_
  refine zr_less (L' := [some (.ref 33), some (.int x1), some (.int x2), some (.int x3), none, some (.int x5), none, none, none]) ⟨rfl, ⟨rfl, ⟨rfl, ⟨rfl, ⟨rfl, trivial⟩⟩⟩⟩⟩ ?_
  exact s_Model_ofTiles_L158  hR12  hJ
set_option maxHeartbeats 400000 in
theorem s_Model_ofTiles_L131 {g : zk_T} {R12 : Int32 → Int32 → Int32 → Int32 → Int32 → zm → Prop} {K : Int64 → zm → Prop} (hR12 : ∀ {x1 : Int32} {x2 : Int32} {x3 : Int32} {x4 : Int32} {x5 : Int32} {m : zm}, R12 x1 x2 x3 x4 x5 m → zq_V (zk_g g) ("RiichiTableModel", prog_9_method_29_code, 9, (some .long), false, zq_rm 1 0 0) 0 0 12 [some (.ref 33), some (.int x1), some (.int x2), some (.int x3), some (.int x4), some (.int x5), none, none, none] [] (zm_hp m) (zm_QL K)) {x1 : Int32} {x2 : Int32} {x3 : Int32} {x4 : Int32} {x5 : Int32} {t0 : Int32} {m : zm} (hJ : j_Model_ofTiles_L131  R12 K x1 x2 x3 x4 x5 t0 m) : zq_V (zk_g g) ("RiichiTableModel", prog_9_method_29_code, 9, (some .long), false, zq_rm 1 0 0) 0 0 131 [some (.ref 33), some (.int x1), some (.int x2), some (.int x3), some (.int x4), some (.int x5), none, none, none] [.int t0] (zm_hp m) (zm_QL K) := by
  unfold j_Model_ofTiles_L131 at hJ
  refine zr_istore (L' := [some (.ref 33), some (.int x1), some (.int x2), some (.int x3), some (.int x4), some (.int x5), some (.int t0), none, none]) d_Model_ofTiles_131 (Nat.le_of_ble_eq_true rfl) rfl ?_
  refine zq_iload d_Model_ofTiles_133 rfl ?_
  refine zq_if_eq (tgt := 157) d_Model_ofTiles_135 (by decide) (fun c => ?_) (fun c => ?_)
  · have hJ := hJ.1 c
    refine zr_less (L' := [some (.ref 33), some (.int x1), some (.int x2), some (.int x3), none, some (.int x5), none, none, none]) ⟨rfl, ⟨rfl, ⟨rfl, ⟨rfl, ⟨rfl, trivial⟩⟩⟩⟩⟩ ?_
    exact s_Model_ofTiles_L157  hR12  hJ
  · have hJ := hJ.2 c
    refine zq_aload_n d_Model_ofTiles_138 rfl rfl ?_
    refine zm_getR fg_Model_63 d_Model_ofTiles_139 zs_Model rfl ?_
    refine zq_iload d_Model_ofTiles_142 rfl ?_
    obtain ⟨hb, hJ⟩ := hJ
    refine zm_ald d_Model_ofTiles_144 (rfl : zm_sh[51]? = some (.inl (0, 34, .inl (fun _ => 0)))) hb ?_
    refine zq_if_eq (tgt := 153) d_Model_ofTiles_145 (by decide) (fun c => ?_) (fun c => ?_)
    · have hJ := hJ.1 c
      refine zr_less (L' := [some (.ref 33), some (.int x1), some (.int x2), some (.int x3), none, some (.int x5), none, none, none]) ⟨rfl, ⟨rfl, ⟨rfl, ⟨rfl, ⟨rfl, trivial⟩⟩⟩⟩⟩ ?_
      exact s_Model_ofTiles_L153  hR12  hJ
    · have hJ := hJ.2 c
      refine zq_iload d_Model_ofTiles_148 rfl ?_
      refine zq_if_eq (tgt := 157) d_Model_ofTiles_150 (by decide) (fun c => ?_) (fun c => ?_)
      · have hJ := hJ.1 c
        refine zr_less (L' := [some (.ref 33), some (.int x1), some (.int x2), some (.int x3), none, some (.int x5), none, none, none]) ⟨rfl, ⟨rfl, ⟨rfl, ⟨rfl, ⟨rfl, trivial⟩⟩⟩⟩⟩ ?_
        exact s_Model_ofTiles_L157  hR12  hJ
      · have hJ := hJ.2 c
        refine zr_less (L' := [some (.ref 33), some (.int x1), some (.int x2), some (.int x3), none, some (.int x5), none, none, none]) ⟨rfl, ⟨rfl, ⟨rfl, ⟨rfl, ⟨rfl, trivial⟩⟩⟩⟩⟩ ?_
        exact s_Model_ofTiles_L153  hR12  hJ
set_option maxHeartbeats 400000 in
theorem s_Model_ofTiles_L126 {g : zk_T} {R12 : Int32 → Int32 → Int32 → Int32 → Int32 → zm → Prop} {K : Int64 → zm → Prop} (hR12 : ∀ {x1 : Int32} {x2 : Int32} {x3 : Int32} {x4 : Int32} {x5 : Int32} {m : zm}, R12 x1 x2 x3 x4 x5 m → zq_V (zk_g g) ("RiichiTableModel", prog_9_method_29_code, 9, (some .long), false, zq_rm 1 0 0) 0 0 12 [some (.ref 33), some (.int x1), some (.int x2), some (.int x3), some (.int x4), some (.int x5), none, none, none] [] (zm_hp m) (zm_QL K)) {x1 : Int32} {x2 : Int32} {x3 : Int32} {x4 : Int32} {x5 : Int32} {m : zm} (hJ : j_Model_ofTiles_L126  R12 K x1 x2 x3 x4 x5 m) : zq_V (zk_g g) ("RiichiTableModel", prog_9_method_29_code, 9, (some .long), false, zq_rm 1 0 0) 0 0 126 [some (.ref 33), some (.int x1), some (.int x2), some (.int x3), some (.int x4), some (.int x5), none, none, none] [] (zm_hp m) (zm_QL K) := by
  unfold j_Model_ofTiles_L126 at hJ
  refine zq_iconst (v := 1) d_Model_ofTiles_126 zk_i1 ?_
  refine zq_goto (tgt := 131) d_Model_ofTiles_127 (by decide) ?_
  refine zr_less (L' := [some (.ref 33), some (.int x1), some (.int x2), some (.int x3), some (.int x4), some (.int x5), none, none, none]) ⟨rfl, ⟨rfl, ⟨rfl, ⟨rfl, ⟨rfl, ⟨rfl, trivial⟩⟩⟩⟩⟩⟩ ?_
  exact s_Model_ofTiles_L131  hR12  hJ
set_option maxHeartbeats 400000 in
theorem s_Model_ofTiles_L82 {g : zk_T} {R12 : Int32 → Int32 → Int32 → Int32 → Int32 → zm → Prop} {K : Int64 → zm → Prop} (hR12 : ∀ {x1 : Int32} {x2 : Int32} {x3 : Int32} {x4 : Int32} {x5 : Int32} {m : zm}, R12 x1 x2 x3 x4 x5 m → zq_V (zk_g g) ("RiichiTableModel", prog_9_method_29_code, 9, (some .long), false, zq_rm 1 0 0) 0 0 12 [some (.ref 33), some (.int x1), some (.int x2), some (.int x3), some (.int x4), some (.int x5), none, none, none] [] (zm_hp m) (zm_QL K)) {x1 : Int32} {x3 : Int32} {x4 : Int32} {x5 : Int32} {t0 : Int32} {t1 : Int32} {m : zm} (hJ : j_Model_ofTiles_L82  R12 K x1 x3 x4 x5 t0 t1 m) : zq_V (zk_g g) ("RiichiTableModel", prog_9_method_29_code, 9, (some .long), false, zq_rm 1 0 0) 0 0 82 [some (.ref 33), some (.int x1), none, some (.int x3), some (.int x4), some (.int x5), none, none, none] [.int t0, .int t1] (zm_hp m) (zm_QL K) := by
  unfold j_Model_ofTiles_L82 at hJ
  refine zq_iadd d_Model_ofTiles_82 ?_
  refine zr_topi (fun y9 hy9 => ?_)
  have hJ := hJ y9 hy9
  refine zr_istore_n (L' := [some (.ref 33), some (.int x1), some (.int y9), some (.int x3), some (.int x4), some (.int x5), none, none, none]) d_Model_ofTiles_83 rfl (Nat.le_of_ble_eq_true rfl) rfl ?_
  refine zq_iload d_Model_ofTiles_84 rfl ?_
  refine zq_bipush (v := 19) d_Model_ofTiles_86 zk_b19 ?_
  refine zq_icmp_eq (tgt := 126) d_Model_ofTiles_88 (by decide) (fun c => ?_) (fun c => ?_)
  · have hJ := hJ.1 c
    refine zr_less (L' := [some (.ref 33), some (.int x1), some (.int y9), some (.int x3), some (.int x4), some (.int x5), none, none, none]) ⟨rfl, ⟨rfl, ⟨rfl, ⟨rfl, ⟨rfl, ⟨rfl, trivial⟩⟩⟩⟩⟩⟩ ?_
    exact s_Model_ofTiles_L126  hR12  hJ
  · have hJ := hJ.2 c
    refine zq_iload d_Model_ofTiles_91 rfl ?_
    refine zq_bipush (v := 20) d_Model_ofTiles_93 zk_b20 ?_
    refine zq_icmp_eq (tgt := 126) d_Model_ofTiles_95 (by decide) (fun c => ?_) (fun c => ?_)
    · have hJ := hJ.1 c
      refine zr_less (L' := [some (.ref 33), some (.int x1), some (.int y9), some (.int x3), some (.int x4), some (.int x5), none, none, none]) ⟨rfl, ⟨rfl, ⟨rfl, ⟨rfl, ⟨rfl, ⟨rfl, trivial⟩⟩⟩⟩⟩⟩ ?_
      exact s_Model_ofTiles_L126  hR12  hJ
    · have hJ := hJ.2 c
      refine zq_iload d_Model_ofTiles_98 rfl ?_
      refine zq_bipush (v := 21) d_Model_ofTiles_100 zk_b21 ?_
      refine zq_icmp_eq (tgt := 126) d_Model_ofTiles_102 (by decide) (fun c => ?_) (fun c => ?_)
      · have hJ := hJ.1 c
        refine zr_less (L' := [some (.ref 33), some (.int x1), some (.int y9), some (.int x3), some (.int x4), some (.int x5), none, none, none]) ⟨rfl, ⟨rfl, ⟨rfl, ⟨rfl, ⟨rfl, ⟨rfl, trivial⟩⟩⟩⟩⟩⟩ ?_
        exact s_Model_ofTiles_L126  hR12  hJ
      · have hJ := hJ.2 c
        refine zq_iload d_Model_ofTiles_105 rfl ?_
        refine zq_bipush (v := 23) d_Model_ofTiles_107 zk_b23 ?_
        refine zq_icmp_eq (tgt := 126) d_Model_ofTiles_109 (by decide) (fun c => ?_) (fun c => ?_)
        · have hJ := hJ.1 c
          refine zr_less (L' := [some (.ref 33), some (.int x1), some (.int y9), some (.int x3), some (.int x4), some (.int x5), none, none, none]) ⟨rfl, ⟨rfl, ⟨rfl, ⟨rfl, ⟨rfl, ⟨rfl, trivial⟩⟩⟩⟩⟩⟩ ?_
          exact s_Model_ofTiles_L126  hR12  hJ
        · have hJ := hJ.2 c
          refine zq_iload d_Model_ofTiles_112 rfl ?_
          refine zq_bipush (v := 25) d_Model_ofTiles_114 zk_b25 ?_
          refine zq_icmp_eq (tgt := 126) d_Model_ofTiles_116 (by decide) (fun c => ?_) (fun c => ?_)
          · have hJ := hJ.1 c
            refine zr_less (L' := [some (.ref 33), some (.int x1), some (.int y9), some (.int x3), some (.int x4), some (.int x5), none, none, none]) ⟨rfl, ⟨rfl, ⟨rfl, ⟨rfl, ⟨rfl, ⟨rfl, trivial⟩⟩⟩⟩⟩⟩ ?_
            exact s_Model_ofTiles_L126  hR12  hJ
          · have hJ := hJ.2 c
            refine zq_iload d_Model_ofTiles_119 rfl ?_
            refine zq_bipush (v := 32) d_Model_ofTiles_121 zk_b32 ?_
            refine zq_icmp_ne (tgt := 130) d_Model_ofTiles_123 (by decide) (fun c => ?_) (fun c => ?_)
            · have hJ := hJ.1 c
              refine zq_iconst (v := 0) d_Model_ofTiles_130 zk_i0 ?_
              refine zr_less (L' := [some (.ref 33), some (.int x1), some (.int y9), some (.int x3), some (.int x4), some (.int x5), none, none, none]) ⟨rfl, ⟨rfl, ⟨rfl, ⟨rfl, ⟨rfl, ⟨rfl, trivial⟩⟩⟩⟩⟩⟩ ?_
              exact s_Model_ofTiles_L131  hR12  hJ
            · have hJ := hJ.2 c
              refine zr_less (L' := [some (.ref 33), some (.int x1), some (.int y9), some (.int x3), some (.int x4), some (.int x5), none, none, none]) ⟨rfl, ⟨rfl, ⟨rfl, ⟨rfl, ⟨rfl, ⟨rfl, trivial⟩⟩⟩⟩⟩⟩ ?_
              exact s_Model_ofTiles_L126  hR12  hJ
set_option maxHeartbeats 400000 in
theorem s_Model_ofTiles_L60 {g : zk_T} {R12 : Int32 → Int32 → Int32 → Int32 → Int32 → zm → Prop} {K : Int64 → zm → Prop} (hR12 : ∀ {x1 : Int32} {x2 : Int32} {x3 : Int32} {x4 : Int32} {x5 : Int32} {m : zm}, R12 x1 x2 x3 x4 x5 m → zq_V (zk_g g) ("RiichiTableModel", prog_9_method_29_code, 9, (some .long), false, zq_rm 1 0 0) 0 0 12 [some (.ref 33), some (.int x1), some (.int x2), some (.int x3), some (.int x4), some (.int x5), none, none, none] [] (zm_hp m) (zm_QL K)) {x1 : Int32} {x2 : Int32} {x4 : Int32} {x5 : Int32} {t0 : Int32} {t1 : Int32} {m : zm} (hJ : j_Model_ofTiles_L60  R12 K x1 x2 x4 x5 t0 t1 m) : zq_V (zk_g g) ("RiichiTableModel", prog_9_method_29_code, 9, (some .long), false, zq_rm 1 0 0) 0 0 60 [some (.ref 33), some (.int x1), some (.int x2), none, some (.int x4), some (.int x5), none, none, none] [.int t0, .int t1] (zm_hp m) (zm_QL K) := by
  unfold j_Model_ofTiles_L60 at hJ
  refine zq_iadd d_Model_ofTiles_60 ?_
  refine zr_topi (fun y6 hy6 => ?_)
  have hJ := hJ y6 hy6
  refine zr_istore_n (L' := [some (.ref 33), some (.int x1), some (.int x2), some (.int y6), some (.int x4), some (.int x5), none, none, none]) d_Model_ofTiles_61 rfl (Nat.le_of_ble_eq_true rfl) rfl ?_
  refine zq_iload_n d_Model_ofTiles_62 rfl rfl ?_
  refine zq_iload d_Model_ofTiles_63 rfl ?_
  refine zr_csI (as := [.int x5]) (st := [.int x2]) d_Model_ofTiles_65 cc_Model_133 cs_Model_outer (s_Model_outer  hJ) rfl ⟨Nat.le_of_ble_eq_true rfl, Nat.le_of_ble_eq_true rfl⟩ (Nat.le_of_ble_eq_true rfl) ⟨Nat.le_refl _, Nat.le_refl _⟩ rfl (fun r8 m7 hJ => ?_)
  refine zq_if_eq (tgt := 75) d_Model_ofTiles_68 (by decide) (fun c => ?_) (fun c => ?_)
  · have hJ := hJ.1 c
    refine zq_aload_n d_Model_ofTiles_75 rfl rfl ?_
    refine zm_getR fg_Model_63 d_Model_ofTiles_76 zs_Model rfl ?_
    refine zq_iload d_Model_ofTiles_79 rfl ?_
    obtain ⟨hb, hJ⟩ := hJ
    refine zm_ald d_Model_ofTiles_81 (rfl : zm_sh[51]? = some (.inl (0, 34, .inl (fun _ => 0)))) hb ?_
    refine zr_less (L' := [some (.ref 33), some (.int x1), none, some (.int y6), some (.int x4), some (.int x5), none, none, none]) ⟨rfl, ⟨rfl, ⟨rfl, ⟨rfl, ⟨rfl, trivial⟩⟩⟩⟩⟩ ?_
    exact s_Model_ofTiles_L82  hR12  hJ
  · have hJ := hJ.2 c
    refine zq_iconst (v := 0) d_Model_ofTiles_71 zk_i0 ?_
    refine zq_goto (tgt := 82) d_Model_ofTiles_72 (by decide) ?_
    refine zr_less (L' := [some (.ref 33), some (.int x1), none, some (.int y6), some (.int x4), some (.int x5), none, none, none]) ⟨rfl, ⟨rfl, ⟨rfl, ⟨rfl, ⟨rfl, trivial⟩⟩⟩⟩⟩ ?_
    exact s_Model_ofTiles_L82  hR12  hJ
set_option maxHeartbeats 400000 in
theorem s_Model_ofTiles_L38 {g : zk_T} {R12 : Int32 → Int32 → Int32 → Int32 → Int32 → zm → Prop} {K : Int64 → zm → Prop} (hR12 : ∀ {x1 : Int32} {x2 : Int32} {x3 : Int32} {x4 : Int32} {x5 : Int32} {m : zm}, R12 x1 x2 x3 x4 x5 m → zq_V (zk_g g) ("RiichiTableModel", prog_9_method_29_code, 9, (some .long), false, zq_rm 1 0 0) 0 0 12 [some (.ref 33), some (.int x1), some (.int x2), some (.int x3), some (.int x4), some (.int x5), none, none, none] [] (zm_hp m) (zm_QL K)) {x2 : Int32} {x3 : Int32} {x4 : Int32} {x5 : Int32} {t0 : Int32} {t1 : Int32} {m : zm} (hJ : j_Model_ofTiles_L38  R12 K x2 x3 x4 x5 t0 t1 m) : zq_V (zk_g g) ("RiichiTableModel", prog_9_method_29_code, 9, (some .long), false, zq_rm 1 0 0) 0 0 38 [some (.ref 33), none, some (.int x2), some (.int x3), some (.int x4), some (.int x5), none, none, none] [.int t0, .int t1] (zm_hp m) (zm_QL K) := by
  unfold j_Model_ofTiles_L38 at hJ
  refine zq_iadd d_Model_ofTiles_38 ?_
  refine zr_topi (fun y3 hy3 => ?_)
  have hJ := hJ y3 hy3
  refine zr_istore_n (L' := [some (.ref 33), some (.int y3), some (.int x2), some (.int x3), some (.int x4), some (.int x5), none, none, none]) d_Model_ofTiles_39 rfl (Nat.le_of_ble_eq_true rfl) rfl ?_
  refine zq_iload_n d_Model_ofTiles_40 rfl rfl ?_
  refine zq_iload d_Model_ofTiles_41 rfl ?_
  refine zr_csI (as := [.int x5]) (st := [.int x3]) d_Model_ofTiles_43 cc_Model_133 cs_Model_outer (s_Model_outer  hJ) rfl ⟨Nat.le_of_ble_eq_true rfl, Nat.le_of_ble_eq_true rfl⟩ (Nat.le_of_ble_eq_true rfl) ⟨Nat.le_refl _, Nat.le_refl _⟩ rfl (fun r5 m4 hJ => ?_)
  refine zq_if_eq (tgt := 59) d_Model_ofTiles_46 (by decide) (fun c => ?_) (fun c => ?_)
  · have hJ := hJ.1 c
    refine zq_iconst (v := 0) d_Model_ofTiles_59 zk_i0 ?_
    refine zr_less (L' := [some (.ref 33), some (.int y3), some (.int x2), none, some (.int x4), some (.int x5), none, none, none]) ⟨rfl, ⟨rfl, ⟨rfl, ⟨rfl, ⟨rfl, trivial⟩⟩⟩⟩⟩ ?_
    exact s_Model_ofTiles_L60  hR12  hJ
  · have hJ := hJ.2 c
    refine zq_aload_n d_Model_ofTiles_49 rfl rfl ?_
    refine zm_getR fg_Model_63 d_Model_ofTiles_50 zs_Model rfl ?_
    refine zq_iload d_Model_ofTiles_53 rfl ?_
    obtain ⟨hb, hJ⟩ := hJ
    refine zm_ald d_Model_ofTiles_55 (rfl : zm_sh[51]? = some (.inl (0, 34, .inl (fun _ => 0)))) hb ?_
    refine zq_goto (tgt := 60) d_Model_ofTiles_56 (by decide) ?_
    refine zr_less (L' := [some (.ref 33), some (.int y3), some (.int x2), none, some (.int x4), some (.int x5), none, none, none]) ⟨rfl, ⟨rfl, ⟨rfl, ⟨rfl, ⟨rfl, trivial⟩⟩⟩⟩⟩ ?_
    exact s_Model_ofTiles_L60  hR12  hJ
set_option maxHeartbeats 400000 in
theorem s_Model_ofTiles_L342 {g : zk_T} {K : Int64 → zm → Prop} {t0 : Int32} {t2 : Int64} {m : zm} (hJ : j_Model_ofTiles_L342   K t0 t2 m) : zq_V (zk_g g) ("RiichiTableModel", prog_9_method_29_code, 9, (some .long), false, zq_rm 1 0 0) 0 0 342 [some (.ref 33), none, none, none, none, none, none, none, none] [.int t0, .ref 33, .long t2] (zm_hp m) (zm_QL K) := by
  unfold j_Model_ofTiles_L342 at hJ
  refine zq_bipush (v := 31) d_Model_ofTiles_342 zk_b31 ?_
  refine zr_cvL (q := 33) (as := [.int t0, .int 31]) (st := [.long t2]) d_Model_ofTiles_344 cc_Model_187 cv_Model_bit zs_Model (s_Model_bit  hJ) rfl ⟨Nat.le_of_ble_eq_true rfl, Nat.le_of_ble_eq_true rfl⟩ (Nat.le_of_ble_eq_true rfl) ⟨Nat.le_refl _, Nat.le_refl _⟩ rfl (fun r29 m28 hJ => ?_)
  refine zq_lor d_Model_ofTiles_347 ?_
  exact zq_lret d_Model_ofTiles_348 rfl (Nat.le_refl _) (Nat.le_refl _) ⟨_, _, rfl, rfl, hJ⟩
set_option maxHeartbeats 400000 in
theorem s_Model_ofTiles_L341 {g : zk_T} {K : Int64 → zm → Prop} {t1 : Int64} {m : zm} (hJ : j_Model_ofTiles_L341   K t1 m) : zq_V (zk_g g) ("RiichiTableModel", prog_9_method_29_code, 9, (some .long), false, zq_rm 1 0 0) 0 0 341 [some (.ref 33), none, none, none, none, none, none, none, none] [.ref 33, .long t1] (zm_hp m) (zm_QL K) := by
  unfold j_Model_ofTiles_L341 at hJ
  refine zq_iconst (v := 0) d_Model_ofTiles_341 zk_i0 ?_
  refine zr_less (L' := [some (.ref 33), none, none, none, none, none, none, none, none]) ⟨rfl, trivial⟩ ?_
  exact s_Model_ofTiles_L342    hJ
set_option maxHeartbeats 400000 in
theorem s_Model_ofTiles_L305 {g : zk_T} {K : Int64 → zm → Prop} {x1 : Int32} {x4 : Int32} {x6 : Int32} {t0 : Int32} {t2 : Int64} {m : zm} (hJ : j_Model_ofTiles_L305   K x1 x4 x6 t0 t2 m) : zq_V (zk_g g) ("RiichiTableModel", prog_9_method_29_code, 9, (some .long), false, zq_rm 1 0 0) 0 0 305 [some (.ref 33), some (.int x1), none, none, some (.int x4), none, some (.int x6), none, none] [.int t0, .ref 33, .long t2] (zm_hp m) (zm_QL K) := by
  unfold j_Model_ofTiles_L305 at hJ
  refine zq_bipush (v := 38) d_Model_ofTiles_305 zk_b38 ?_
  refine zr_cvL (q := 33) (as := [.int t0, .int 38]) (st := [.long t2]) d_Model_ofTiles_307 cc_Model_187 cv_Model_bit zs_Model (s_Model_bit  hJ) rfl ⟨Nat.le_of_ble_eq_true rfl, Nat.le_of_ble_eq_true rfl⟩ (Nat.le_of_ble_eq_true rfl) ⟨Nat.le_refl _, Nat.le_refl _⟩ rfl (fun r23 m22 hJ => ?_)
  refine zq_lor d_Model_ofTiles_310 ?_
  refine zq_aload_n d_Model_ofTiles_311 rfl rfl ?_
  refine zq_iload d_Model_ofTiles_312 rfl ?_
  refine zq_bipush (v := 39) d_Model_ofTiles_314 zk_b39 ?_
  refine zr_cvL (q := 33) (as := [.int x4, .int 39]) (st := [.long (t2 ||| r23)]) d_Model_ofTiles_316 cc_Model_187 cv_Model_bit zs_Model (s_Model_bit  hJ) rfl ⟨Nat.le_of_ble_eq_true rfl, Nat.le_of_ble_eq_true rfl⟩ (Nat.le_of_ble_eq_true rfl) ⟨Nat.le_refl _, Nat.le_refl _⟩ rfl (fun r25 m24 hJ => ?_)
  refine zq_lor d_Model_ofTiles_319 ?_
  refine zq_aload_n d_Model_ofTiles_320 rfl rfl ?_
  refine zq_iload d_Model_ofTiles_321 rfl ?_
  refine zq_if_eq (tgt := 341) d_Model_ofTiles_323 (by decide) (fun c => ?_) (fun c => ?_)
  · have hJ := hJ.1 c
    refine zr_less (L' := [some (.ref 33), none, none, none, none, none, none, none, none]) ⟨rfl, trivial⟩ ?_
    exact s_Model_ofTiles_L341    hJ
  · have hJ := hJ.2 c
    refine zq_iload_n d_Model_ofTiles_326 rfl rfl ?_
    refine zq_if_ne (tgt := 341) d_Model_ofTiles_327 (by decide) (fun c => ?_) (fun c => ?_)
    · have hJ := hJ.1 c
      refine zr_less (L' := [some (.ref 33), none, none, none, none, none, none, none, none]) ⟨rfl, trivial⟩ ?_
      exact s_Model_ofTiles_L341    hJ
    · have hJ := hJ.2 c
      refine zq_aload_n d_Model_ofTiles_330 rfl rfl ?_
      refine zr_cvI (q := 33) (as := []) (st := [.ref 33, .long ((t2 ||| r23) ||| r25)]) d_Model_ofTiles_331 cc_Model_203 cv_Model_nineGates zs_Model (s_Model_nineGates  hJ) rfl ⟨Nat.le_of_ble_eq_true rfl, Nat.le_of_ble_eq_true rfl⟩ (Nat.le_of_ble_eq_true rfl) ⟨Nat.le_refl _, Nat.le_refl _⟩ rfl (fun r27 m26 hJ => ?_)
      refine zq_if_eq (tgt := 341) d_Model_ofTiles_334 (by decide) (fun c => ?_) (fun c => ?_)
      · have hJ := hJ.1 c
        refine zr_less (L' := [some (.ref 33), none, none, none, none, none, none, none, none]) ⟨rfl, trivial⟩ ?_
        exact s_Model_ofTiles_L341    hJ
      · have hJ := hJ.2 c
        refine zq_iconst (v := 1) d_Model_ofTiles_337 zk_i1 ?_
        refine zq_goto (tgt := 342) d_Model_ofTiles_338 (by decide) ?_
        refine zr_less (L' := [some (.ref 33), none, none, none, none, none, none, none, none]) ⟨rfl, trivial⟩ ?_
        exact s_Model_ofTiles_L342    hJ
set_option maxHeartbeats 400000 in
theorem s_Model_ofTiles_L304 {g : zk_T} {K : Int64 → zm → Prop} {x1 : Int32} {x4 : Int32} {x6 : Int32} {t1 : Int64} {m : zm} (hJ : j_Model_ofTiles_L304   K x1 x4 x6 t1 m) : zq_V (zk_g g) ("RiichiTableModel", prog_9_method_29_code, 9, (some .long), false, zq_rm 1 0 0) 0 0 304 [some (.ref 33), some (.int x1), none, none, some (.int x4), none, some (.int x6), none, none] [.ref 33, .long t1] (zm_hp m) (zm_QL K) := by
  unfold j_Model_ofTiles_L304 at hJ
  refine zq_iconst (v := 0) d_Model_ofTiles_304 zk_i0 ?_
  refine zr_less (L' := [some (.ref 33), some (.int x1), none, none, some (.int x4), none, some (.int x6), none, none]) ⟨rfl, ⟨rfl, ⟨rfl, ⟨rfl, trivial⟩⟩⟩⟩ ?_
  exact s_Model_ofTiles_L305    hJ
set_option maxHeartbeats 400000 in
theorem s_Model_ofTiles_L285 {g : zk_T} {K : Int64 → zm → Prop} {x1 : Int32} {x2 : Int32} {x4 : Int32} {x6 : Int32} {t0 : Int32} {t2 : Int64} {m : zm} (hJ : j_Model_ofTiles_L285   K x1 x2 x4 x6 t0 t2 m) : zq_V (zk_g g) ("RiichiTableModel", prog_9_method_29_code, 9, (some .long), false, zq_rm 1 0 0) 0 0 285 [some (.ref 33), some (.int x1), some (.int x2), none, some (.int x4), none, some (.int x6), none, none] [.int t0, .ref 33, .long t2] (zm_hp m) (zm_QL K) := by
  unfold j_Model_ofTiles_L285 at hJ
  refine zq_bipush (v := 37) d_Model_ofTiles_285 zk_b37 ?_
  refine zr_cvL (q := 33) (as := [.int t0, .int 37]) (st := [.long t2]) d_Model_ofTiles_287 cc_Model_187 cv_Model_bit zs_Model (s_Model_bit  hJ) rfl ⟨Nat.le_of_ble_eq_true rfl, Nat.le_of_ble_eq_true rfl⟩ (Nat.le_of_ble_eq_true rfl) ⟨Nat.le_refl _, Nat.le_refl _⟩ rfl (fun r21 m20 hJ => ?_)
  refine zq_lor d_Model_ofTiles_290 ?_
  refine zq_aload_n d_Model_ofTiles_291 rfl rfl ?_
  refine zq_iload_n d_Model_ofTiles_292 rfl rfl ?_
  refine zq_if_ne (tgt := 304) d_Model_ofTiles_293 (by decide) (fun c => ?_) (fun c => ?_)
  · have hJ := hJ.1 c
    refine zr_less (L' := [some (.ref 33), some (.int x1), none, none, some (.int x4), none, some (.int x6), none, none]) ⟨rfl, ⟨rfl, ⟨rfl, ⟨rfl, trivial⟩⟩⟩⟩ ?_
    exact s_Model_ofTiles_L304    hJ
  · have hJ := hJ.2 c
    refine zq_iload_n d_Model_ofTiles_296 rfl rfl ?_
    refine zq_if_ne (tgt := 304) d_Model_ofTiles_297 (by decide) (fun c => ?_) (fun c => ?_)
    · have hJ := hJ.1 c
      refine zr_less (L' := [some (.ref 33), some (.int x1), none, none, some (.int x4), none, some (.int x6), none, none]) ⟨rfl, ⟨rfl, ⟨rfl, ⟨rfl, trivial⟩⟩⟩⟩ ?_
      exact s_Model_ofTiles_L304    hJ
    · have hJ := hJ.2 c
      refine zq_iconst (v := 1) d_Model_ofTiles_300 zk_i1 ?_
      refine zq_goto (tgt := 305) d_Model_ofTiles_301 (by decide) ?_
      refine zr_less (L' := [some (.ref 33), some (.int x1), none, none, some (.int x4), none, some (.int x6), none, none]) ⟨rfl, ⟨rfl, ⟨rfl, ⟨rfl, trivial⟩⟩⟩⟩ ?_
      exact s_Model_ofTiles_L305    hJ
set_option maxHeartbeats 400000 in
theorem s_Model_ofTiles_L264 {g : zk_T} {K : Int64 → zm → Prop} {x1 : Int32} {x2 : Int32} {x4 : Int32} {x5 : Int32} {x6 : Int32} {t0 : Int32} {t2 : Int64} {m : zm} (hJ : j_Model_ofTiles_L264   K x1 x2 x4 x5 x6 t0 t2 m) : zq_V (zk_g g) ("RiichiTableModel", prog_9_method_29_code, 9, (some .long), false, zq_rm 1 0 0) 0 0 264 [some (.ref 33), some (.int x1), some (.int x2), none, some (.int x4), some (.int x5), some (.int x6), none, none] [.int t0, .ref 33, .long t2] (zm_hp m) (zm_QL K) := by
  unfold j_Model_ofTiles_L264 at hJ
  refine zq_bipush (v := 29) d_Model_ofTiles_264 zk_b29 ?_
  refine zr_cvL (q := 33) (as := [.int t0, .int 29]) (st := [.long t2]) d_Model_ofTiles_266 cc_Model_187 cv_Model_bit zs_Model (s_Model_bit  hJ) rfl ⟨Nat.le_of_ble_eq_true rfl, Nat.le_of_ble_eq_true rfl⟩ (Nat.le_of_ble_eq_true rfl) ⟨Nat.le_refl _, Nat.le_refl _⟩ rfl (fun r18 m17 hJ => ?_)
  refine zq_lor d_Model_ofTiles_269 ?_
  refine zr_topl (fun y19 hy19 => ?_)
  have hJ := hJ y19 hy19
  refine zr_lstore (L' := [some (.ref 33), some (.int x1), some (.int x2), none, some (.int x4), some (.int x5), some (.int x6), some (.long y19), none]) d_Model_ofTiles_270 (Nat.le_of_ble_eq_true rfl) rfl ?_
  refine zq_lload d_Model_ofTiles_272 rfl ?_
  refine zq_aload_n d_Model_ofTiles_274 rfl rfl ?_
  refine zq_iload d_Model_ofTiles_275 rfl ?_
  refine zq_if_ne (tgt := 284) d_Model_ofTiles_277 (by decide) (fun c => ?_) (fun c => ?_)
  · have hJ := hJ.1 c
    refine zq_iconst (v := 0) d_Model_ofTiles_284 zk_i0 ?_
    refine zr_less (L' := [some (.ref 33), some (.int x1), some (.int x2), none, some (.int x4), none, some (.int x6), none, none]) ⟨rfl, ⟨rfl, ⟨rfl, ⟨rfl, ⟨rfl, trivial⟩⟩⟩⟩⟩ ?_
    exact s_Model_ofTiles_L285    hJ
  · have hJ := hJ.2 c
    refine zq_iconst (v := 1) d_Model_ofTiles_280 zk_i1 ?_
    refine zq_goto (tgt := 285) d_Model_ofTiles_281 (by decide) ?_
    refine zr_less (L' := [some (.ref 33), some (.int x1), some (.int x2), none, some (.int x4), none, some (.int x6), none, none]) ⟨rfl, ⟨rfl, ⟨rfl, ⟨rfl, ⟨rfl, trivial⟩⟩⟩⟩⟩ ?_
    exact s_Model_ofTiles_L285    hJ
set_option maxHeartbeats 400000 in
theorem s_Model_ofTiles_L263 {g : zk_T} {K : Int64 → zm → Prop} {x1 : Int32} {x2 : Int32} {x4 : Int32} {x5 : Int32} {x6 : Int32} {t1 : Int64} {m : zm} (hJ : j_Model_ofTiles_L263   K x1 x2 x4 x5 x6 t1 m) : zq_V (zk_g g) ("RiichiTableModel", prog_9_method_29_code, 9, (some .long), false, zq_rm 1 0 0) 0 0 263 [some (.ref 33), some (.int x1), some (.int x2), none, some (.int x4), some (.int x5), some (.int x6), none, none] [.ref 33, .long t1] (zm_hp m) (zm_QL K) := by
  unfold j_Model_ofTiles_L263 at hJ
  refine zq_iconst (v := 0) d_Model_ofTiles_263 zk_i0 ?_
  refine zr_less (L' := [some (.ref 33), some (.int x1), some (.int x2), none, some (.int x4), some (.int x5), some (.int x6), none, none]) ⟨rfl, ⟨rfl, ⟨rfl, ⟨rfl, ⟨rfl, ⟨rfl, trivial⟩⟩⟩⟩⟩⟩ ?_
  exact s_Model_ofTiles_L264    hJ
set_option maxHeartbeats 400000 in
theorem s_Model_ofTiles_L243 {g : zk_T} {K : Int64 → zm → Prop} {x1 : Int32} {x2 : Int32} {x4 : Int32} {x5 : Int32} {x6 : Int32} {t0 : Int32} {t2 : Int64} {m : zm} (hJ : j_Model_ofTiles_L243   K x1 x2 x4 x5 x6 t0 t2 m) : zq_V (zk_g g) ("RiichiTableModel", prog_9_method_29_code, 9, (some .long), false, zq_rm 1 0 0) 0 0 243 [some (.ref 33), some (.int x1), some (.int x2), none, some (.int x4), some (.int x5), some (.int x6), none, none] [.int t0, .ref 33, .long t2] (zm_hp m) (zm_QL K) := by
  unfold j_Model_ofTiles_L243 at hJ
  refine zq_bipush (v := 28) d_Model_ofTiles_243 zk_b28 ?_
  refine zr_cvL (q := 33) (as := [.int t0, .int 28]) (st := [.long t2]) d_Model_ofTiles_245 cc_Model_187 cv_Model_bit zs_Model (s_Model_bit  hJ) rfl ⟨Nat.le_of_ble_eq_true rfl, Nat.le_of_ble_eq_true rfl⟩ (Nat.le_of_ble_eq_true rfl) ⟨Nat.le_refl _, Nat.le_refl _⟩ rfl (fun r16 m15 hJ => ?_)
  refine zq_lor d_Model_ofTiles_248 ?_
  refine zq_aload_n d_Model_ofTiles_249 rfl rfl ?_
  refine zq_iload d_Model_ofTiles_250 rfl ?_
  refine zq_if_eq (tgt := 263) d_Model_ofTiles_252 (by decide) (fun c => ?_) (fun c => ?_)
  · have hJ := hJ.1 c
    refine zr_less (L' := [some (.ref 33), some (.int x1), some (.int x2), none, some (.int x4), some (.int x5), some (.int x6), none, none]) ⟨rfl, ⟨rfl, ⟨rfl, ⟨rfl, ⟨rfl, ⟨rfl, trivial⟩⟩⟩⟩⟩⟩ ?_
    exact s_Model_ofTiles_L263    hJ
  · have hJ := hJ.2 c
    refine zq_iload_n d_Model_ofTiles_255 rfl rfl ?_
    refine zq_if_ne (tgt := 263) d_Model_ofTiles_256 (by decide) (fun c => ?_) (fun c => ?_)
    · have hJ := hJ.1 c
      refine zr_less (L' := [some (.ref 33), some (.int x1), some (.int x2), none, some (.int x4), some (.int x5), some (.int x6), none, none]) ⟨rfl, ⟨rfl, ⟨rfl, ⟨rfl, ⟨rfl, ⟨rfl, trivial⟩⟩⟩⟩⟩⟩ ?_
      exact s_Model_ofTiles_L263    hJ
    · have hJ := hJ.2 c
      refine zq_iconst (v := 1) d_Model_ofTiles_259 zk_i1 ?_
      refine zq_goto (tgt := 264) d_Model_ofTiles_260 (by decide) ?_
      refine zr_less (L' := [some (.ref 33), some (.int x1), some (.int x2), none, some (.int x4), some (.int x5), some (.int x6), none, none]) ⟨rfl, ⟨rfl, ⟨rfl, ⟨rfl, ⟨rfl, ⟨rfl, trivial⟩⟩⟩⟩⟩⟩ ?_
      exact s_Model_ofTiles_L264    hJ
set_option maxHeartbeats 400000 in
theorem s_Model_ofTiles_L242 {g : zk_T} {K : Int64 → zm → Prop} {x1 : Int32} {x2 : Int32} {x4 : Int32} {x5 : Int32} {x6 : Int32} {t1 : Int64} {m : zm} (hJ : j_Model_ofTiles_L242   K x1 x2 x4 x5 x6 t1 m) : zq_V (zk_g g) ("RiichiTableModel", prog_9_method_29_code, 9, (some .long), false, zq_rm 1 0 0) 0 0 242 [some (.ref 33), some (.int x1), some (.int x2), none, some (.int x4), some (.int x5), some (.int x6), none, none] [.ref 33, .long t1] (zm_hp m) (zm_QL K) := by
  unfold j_Model_ofTiles_L242 at hJ
  refine zq_iconst (v := 0) d_Model_ofTiles_242 zk_i0 ?_
  refine zr_less (L' := [some (.ref 33), some (.int x1), some (.int x2), none, some (.int x4), some (.int x5), some (.int x6), none, none]) ⟨rfl, ⟨rfl, ⟨rfl, ⟨rfl, ⟨rfl, ⟨rfl, trivial⟩⟩⟩⟩⟩⟩ ?_
  exact s_Model_ofTiles_L243    hJ
set_option maxHeartbeats 400000 in
theorem s_Model_ofTiles_L222 {g : zk_T} {K : Int64 → zm → Prop} {x1 : Int32} {x2 : Int32} {x4 : Int32} {x5 : Int32} {x6 : Int32} {t0 : Int32} {t2 : Int64} {m : zm} (hJ : j_Model_ofTiles_L222   K x1 x2 x4 x5 x6 t0 t2 m) : zq_V (zk_g g) ("RiichiTableModel", prog_9_method_29_code, 9, (some .long), false, zq_rm 1 0 0) 0 0 222 [some (.ref 33), some (.int x1), some (.int x2), none, some (.int x4), some (.int x5), some (.int x6), none, none] [.int t0, .ref 33, .long t2] (zm_hp m) (zm_QL K) := by
  unfold j_Model_ofTiles_L222 at hJ
  refine zq_bipush (v := 25) d_Model_ofTiles_222 zk_b25 ?_
  refine zr_cvL (q := 33) (as := [.int t0, .int 25]) (st := [.long t2]) d_Model_ofTiles_224 cc_Model_187 cv_Model_bit zs_Model (s_Model_bit  hJ) rfl ⟨Nat.le_of_ble_eq_true rfl, Nat.le_of_ble_eq_true rfl⟩ (Nat.le_of_ble_eq_true rfl) ⟨Nat.le_refl _, Nat.le_refl _⟩ rfl (fun r14 m13 hJ => ?_)
  refine zq_lor d_Model_ofTiles_227 ?_
  refine zq_aload_n d_Model_ofTiles_228 rfl rfl ?_
  refine zq_iload d_Model_ofTiles_229 rfl ?_
  refine zq_if_eq (tgt := 242) d_Model_ofTiles_231 (by decide) (fun c => ?_) (fun c => ?_)
  · have hJ := hJ.1 c
    refine zr_less (L' := [some (.ref 33), some (.int x1), some (.int x2), none, some (.int x4), some (.int x5), some (.int x6), none, none]) ⟨rfl, ⟨rfl, ⟨rfl, ⟨rfl, ⟨rfl, ⟨rfl, trivial⟩⟩⟩⟩⟩⟩ ?_
    exact s_Model_ofTiles_L242    hJ
  · have hJ := hJ.2 c
    refine zq_iload_n d_Model_ofTiles_234 rfl rfl ?_
    refine zq_if_le (tgt := 242) d_Model_ofTiles_235 (by decide) (fun c => ?_) (fun c => ?_)
    · have hJ := hJ.1 c
      refine zr_less (L' := [some (.ref 33), some (.int x1), some (.int x2), none, some (.int x4), some (.int x5), some (.int x6), none, none]) ⟨rfl, ⟨rfl, ⟨rfl, ⟨rfl, ⟨rfl, ⟨rfl, trivial⟩⟩⟩⟩⟩⟩ ?_
      exact s_Model_ofTiles_L242    hJ
    · have hJ := hJ.2 c
      refine zq_iconst (v := 1) d_Model_ofTiles_238 zk_i1 ?_
      refine zq_goto (tgt := 243) d_Model_ofTiles_239 (by decide) ?_
      refine zr_less (L' := [some (.ref 33), some (.int x1), some (.int x2), none, some (.int x4), some (.int x5), some (.int x6), none, none]) ⟨rfl, ⟨rfl, ⟨rfl, ⟨rfl, ⟨rfl, ⟨rfl, trivial⟩⟩⟩⟩⟩⟩ ?_
      exact s_Model_ofTiles_L243    hJ
set_option maxHeartbeats 400000 in
theorem s_Model_ofTiles_L207 {g : zk_T} {K : Int64 → zm → Prop} {x1 : Int32} {x2 : Int32} {x4 : Int32} {x5 : Int32} {x6 : Int32} {t0 : Int32} {m : zm} (hJ : j_Model_ofTiles_L207   K x1 x2 x4 x5 x6 t0 m) : zq_V (zk_g g) ("RiichiTableModel", prog_9_method_29_code, 9, (some .long), false, zq_rm 1 0 0) 0 0 207 [some (.ref 33), some (.int x1), some (.int x2), none, some (.int x4), some (.int x5), some (.int x6), none, none] [.int t0, .ref 33] (zm_hp m) (zm_QL K) := by
  unfold j_Model_ofTiles_L207 at hJ
  refine zq_bipush (v := 24) d_Model_ofTiles_207 zk_b24 ?_
  refine zr_cvL (q := 33) (as := [.int t0, .int 24]) (st := []) d_Model_ofTiles_209 cc_Model_187 cv_Model_bit zs_Model (s_Model_bit  hJ) rfl ⟨Nat.le_of_ble_eq_true rfl, Nat.le_of_ble_eq_true rfl⟩ (Nat.le_of_ble_eq_true rfl) ⟨Nat.le_refl _, Nat.le_refl _⟩ rfl (fun r12 m11 hJ => ?_)
  refine zq_aload_n d_Model_ofTiles_212 rfl rfl ?_
  refine zq_iload_n d_Model_ofTiles_213 rfl rfl ?_
  refine zq_if_ne (tgt := 221) d_Model_ofTiles_214 (by decide) (fun c => ?_) (fun c => ?_)
  · have hJ := hJ.1 c
    refine zq_iconst (v := 0) d_Model_ofTiles_221 zk_i0 ?_
    refine zr_less (L' := [some (.ref 33), some (.int x1), some (.int x2), none, some (.int x4), some (.int x5), some (.int x6), none, none]) ⟨rfl, ⟨rfl, ⟨rfl, ⟨rfl, ⟨rfl, ⟨rfl, trivial⟩⟩⟩⟩⟩⟩ ?_
    exact s_Model_ofTiles_L222    hJ
  · have hJ := hJ.2 c
    refine zq_iconst (v := 1) d_Model_ofTiles_217 zk_i1 ?_
    refine zq_goto (tgt := 222) d_Model_ofTiles_218 (by decide) ?_
    refine zr_less (L' := [some (.ref 33), some (.int x1), some (.int x2), none, some (.int x4), some (.int x5), some (.int x6), none, none]) ⟨rfl, ⟨rfl, ⟨rfl, ⟨rfl, ⟨rfl, ⟨rfl, trivial⟩⟩⟩⟩⟩⟩ ?_
    exact s_Model_ofTiles_L222    hJ
set_option maxHeartbeats 400000 in
theorem s_Model_ofTiles_L195 {g : zk_T} {K : Int64 → zm → Prop} {x1 : Int32} {x2 : Int32} {x3 : Int32} {x4 : Int32} {x5 : Int32} {t0 : Int32} {m : zm} (hJ : j_Model_ofTiles_L195   K x1 x2 x3 x4 x5 t0 m) : zq_V (zk_g g) ("RiichiTableModel", prog_9_method_29_code, 9, (some .long), false, zq_rm 1 0 0) 0 0 195 [some (.ref 33), some (.int x1), some (.int x2), some (.int x3), some (.int x4), some (.int x5), none, none, none] [.int t0] (zm_hp m) (zm_QL K) := by
  unfold j_Model_ofTiles_L195 at hJ
  refine zr_istore (L' := [some (.ref 33), some (.int x1), some (.int x2), some (.int x3), some (.int x4), some (.int x5), some (.int t0), none, none]) d_Model_ofTiles_195 (Nat.le_of_ble_eq_true rfl) rfl ?_
  refine zq_aload_n d_Model_ofTiles_197 rfl rfl ?_
  refine zq_iload_n d_Model_ofTiles_198 rfl rfl ?_
  refine zq_if_ne (tgt := 206) d_Model_ofTiles_199 (by decide) (fun c => ?_) (fun c => ?_)
  · have hJ := hJ.1 c
    refine zq_iconst (v := 0) d_Model_ofTiles_206 zk_i0 ?_
    refine zr_less (L' := [some (.ref 33), some (.int x1), some (.int x2), none, some (.int x4), some (.int x5), some (.int t0), none, none]) ⟨rfl, ⟨rfl, ⟨rfl, ⟨rfl, ⟨rfl, ⟨rfl, trivial⟩⟩⟩⟩⟩⟩ ?_
    exact s_Model_ofTiles_L207    hJ
  · have hJ := hJ.2 c
    refine zq_iconst (v := 1) d_Model_ofTiles_202 zk_i1 ?_
    refine zq_goto (tgt := 207) d_Model_ofTiles_203 (by decide) ?_
    refine zr_less (L' := [some (.ref 33), some (.int x1), some (.int x2), none, some (.int x4), some (.int x5), some (.int t0), none, none]) ⟨rfl, ⟨rfl, ⟨rfl, ⟨rfl, ⟨rfl, ⟨rfl, trivial⟩⟩⟩⟩⟩⟩ ?_
    exact s_Model_ofTiles_L207    hJ
set_option maxHeartbeats 400000 in
theorem s_Model_ofTiles_L190 {g : zk_T} {K : Int64 → zm → Prop} {x1 : Int32} {x2 : Int32} {x3 : Int32} {x4 : Int32} {x5 : Int32} {m : zm} (hJ : j_Model_ofTiles_L190   K x1 x2 x3 x4 x5 m) : zq_V (zk_g g) ("RiichiTableModel", prog_9_method_29_code, 9, (some .long), false, zq_rm 1 0 0) 0 0 190 [some (.ref 33), some (.int x1), some (.int x2), some (.int x3), some (.int x4), some (.int x5), none, none, none] [] (zm_hp m) (zm_QL K) := by
  unfold j_Model_ofTiles_L190 at hJ
  refine zq_iconst (v := 1) d_Model_ofTiles_190 zk_i1 ?_
  refine zq_goto (tgt := 195) d_Model_ofTiles_191 (by decide) ?_
  refine zr_less (L' := [some (.ref 33), some (.int x1), some (.int x2), some (.int x3), some (.int x4), some (.int x5), none, none, none]) ⟨rfl, ⟨rfl, ⟨rfl, ⟨rfl, ⟨rfl, ⟨rfl, trivial⟩⟩⟩⟩⟩⟩ ?_
  exact s_Model_ofTiles_L195    hJ
set_option maxHeartbeats 400000 in
theorem s_Model_ofTiles_L12 {g : zk_T} {K : Int64 → zm → Prop} : ∀ (n : Nat) {x1 : Int32} {x2 : Int32} {x3 : Int32} {x4 : Int32} {x5 : Int32} {m : zm}, j_Model_ofTiles_L12   K n x1 x2 x3 x4 x5 m → zq_V (zk_g g) ("RiichiTableModel", prog_9_method_29_code, 9, (some .long), false, zq_rm 1 0 0) 0 0 12 [some (.ref 33), some (.int x1), some (.int x2), some (.int x3), some (.int x4), some (.int x5), none, none, none] [] (zm_hp m) (zm_QL K) := by
  intro n
  induction n with
  | zero =>
    intro x1 x2 x3 x4 x5 m hJ
    exact False.elim hJ
  | succ n ih =>
    intro x1 x2 x3 x4 x5 m hJ
    rw [j_Model_ofTiles_L12] at hJ
    refine zq_iload d_Model_ofTiles_12 rfl ?_
    refine zq_bipush (v := 34) d_Model_ofTiles_14 zk_b34 ?_
    refine zq_icmp_ge (tgt := 166) d_Model_ofTiles_16 (by decide) (fun c => ?_) (fun c => ?_)
    · have hJ := hJ.1 c
      refine zq_aload_n d_Model_ofTiles_166 rfl rfl ?_
      refine zr_cvI (q := 33) (as := []) (st := []) d_Model_ofTiles_167 cc_Model_200 cv_Model_suits zs_Model (s_Model_suits  hJ) rfl ⟨Nat.le_of_ble_eq_true rfl, Nat.le_of_ble_eq_true rfl⟩ (Nat.le_of_ble_eq_true rfl) ⟨Nat.le_refl _, Nat.le_refl _⟩ rfl (fun r2 m1 hJ => ?_)
      refine zr_istore (L' := [some (.ref 33), some (.int x1), some (.int x2), some (.int x3), some (.int x4), some (.int r2), none, none, none]) d_Model_ofTiles_170 (Nat.le_of_ble_eq_true rfl) rfl ?_
      refine zq_iload d_Model_ofTiles_172 rfl ?_
      refine zq_iconst (v := 1) d_Model_ofTiles_174 zk_i1 ?_
      refine zq_icmp_eq (tgt := 190) d_Model_ofTiles_175 (by decide) (fun c => ?_) (fun c => ?_)
      · have hJ := hJ.1 c
        refine zr_less (L' := [some (.ref 33), some (.int x1), some (.int x2), some (.int x3), some (.int x4), some (.int r2), none, none, none]) ⟨rfl, ⟨rfl, ⟨rfl, ⟨rfl, ⟨rfl, ⟨rfl, trivial⟩⟩⟩⟩⟩⟩ ?_
        exact s_Model_ofTiles_L190    hJ
      · have hJ := hJ.2 c
        refine zq_iload d_Model_ofTiles_178 rfl ?_
        refine zq_iconst (v := 2) d_Model_ofTiles_180 zk_i2 ?_
        refine zq_icmp_eq (tgt := 190) d_Model_ofTiles_181 (by decide) (fun c => ?_) (fun c => ?_)
        · have hJ := hJ.1 c
          refine zr_less (L' := [some (.ref 33), some (.int x1), some (.int x2), some (.int x3), some (.int x4), some (.int r2), none, none, none]) ⟨rfl, ⟨rfl, ⟨rfl, ⟨rfl, ⟨rfl, ⟨rfl, trivial⟩⟩⟩⟩⟩⟩ ?_
          exact s_Model_ofTiles_L190    hJ
        · have hJ := hJ.2 c
          refine zq_iload d_Model_ofTiles_184 rfl ?_
          refine zq_iconst (v := 4) d_Model_ofTiles_186 zk_i4 ?_
          refine zq_icmp_ne (tgt := 194) d_Model_ofTiles_187 (by decide) (fun c => ?_) (fun c => ?_)
          · have hJ := hJ.1 c
            refine zq_iconst (v := 0) d_Model_ofTiles_194 zk_i0 ?_
            refine zr_less (L' := [some (.ref 33), some (.int x1), some (.int x2), some (.int x3), some (.int x4), some (.int r2), none, none, none]) ⟨rfl, ⟨rfl, ⟨rfl, ⟨rfl, ⟨rfl, ⟨rfl, trivial⟩⟩⟩⟩⟩⟩ ?_
            exact s_Model_ofTiles_L195    hJ
          · have hJ := hJ.2 c
            refine zr_less (L' := [some (.ref 33), some (.int x1), some (.int x2), some (.int x3), some (.int x4), some (.int r2), none, none, none]) ⟨rfl, ⟨rfl, ⟨rfl, ⟨rfl, ⟨rfl, ⟨rfl, trivial⟩⟩⟩⟩⟩⟩ ?_
            exact s_Model_ofTiles_L190    hJ
    · have hJ := hJ.2 c
      refine zq_iload_n d_Model_ofTiles_19 rfl rfl ?_
      refine zq_iload d_Model_ofTiles_20 rfl ?_
      refine zq_bipush (v := 27) d_Model_ofTiles_22 zk_b27 ?_
      refine zq_icmp_lt (tgt := 37) d_Model_ofTiles_24 (by decide) (fun c => ?_) (fun c => ?_)
      · have hJ := hJ.1 c
        refine zq_iconst (v := 0) d_Model_ofTiles_37 zk_i0 ?_
        refine zr_less (L' := [some (.ref 33), none, some (.int x2), some (.int x3), some (.int x4), some (.int x5), none, none, none]) ⟨rfl, ⟨rfl, ⟨rfl, ⟨rfl, ⟨rfl, trivial⟩⟩⟩⟩⟩ ?_
        exact s_Model_ofTiles_L38  ih  hJ
      · have hJ := hJ.2 c
        refine zq_aload_n d_Model_ofTiles_27 rfl rfl ?_
        refine zm_getR fg_Model_63 d_Model_ofTiles_28 zs_Model rfl ?_
        refine zq_iload d_Model_ofTiles_31 rfl ?_
        obtain ⟨hb, hJ⟩ := hJ
        refine zm_ald d_Model_ofTiles_33 (rfl : zm_sh[51]? = some (.inl (0, 34, .inl (fun _ => 0)))) hb ?_
        refine zq_goto (tgt := 38) d_Model_ofTiles_34 (by decide) ?_
        refine zr_less (L' := [some (.ref 33), none, some (.int x2), some (.int x3), some (.int x4), some (.int x5), none, none, none]) ⟨rfl, ⟨rfl, ⟨rfl, ⟨rfl, ⟨rfl, trivial⟩⟩⟩⟩⟩ ?_
        exact s_Model_ofTiles_L38  ih  hJ
set_option maxHeartbeats 400000 in
theorem s_Model_ofTiles {g : zk_T} {K : Int64 → zm → Prop} {m : zm} (hJ : j_Model_ofTiles  m K) : zq_Mt (zk_g g) y_Model_ofTiles 1 0 0 [.ref 33] (zm_hp m) (zm_QL K) := by
  unfold j_Model_ofTiles at hJ
  refine zq_meth (ini := false) rfl (fun h => by cases h) (Nat.le_of_ble_eq_true rfl) ?_
  refine zr_L (F := ("RiichiTableModel", prog_9_method_29_code, 9, (some .long), false, zq_rm 1 0 0)) (L' := [some (.ref 33), none, none, none, none, none, none, none, none]) rfl ?_
  refine zq_iconst (v := 0) d_Model_ofTiles_0 zk_i0 ?_
  refine zr_istore_n (L' := [some (.ref 33), some (.int 0), none, none, none, none, none, none, none]) d_Model_ofTiles_1 rfl (Nat.le_of_ble_eq_true rfl) rfl ?_
  refine zq_iconst (v := 0) d_Model_ofTiles_2 zk_i0 ?_
  refine zr_istore_n (L' := [some (.ref 33), some (.int 0), some (.int 0), none, none, none, none, none, none]) d_Model_ofTiles_3 rfl (Nat.le_of_ble_eq_true rfl) rfl ?_
  refine zq_iconst (v := 0) d_Model_ofTiles_4 zk_i0 ?_
  refine zr_istore_n (L' := [some (.ref 33), some (.int 0), some (.int 0), some (.int 0), none, none, none, none, none]) d_Model_ofTiles_5 rfl (Nat.le_of_ble_eq_true rfl) rfl ?_
  refine zq_iconst (v := 1) d_Model_ofTiles_6 zk_i1 ?_
  refine zr_istore (L' := [some (.ref 33), some (.int 0), some (.int 0), some (.int 0), some (.int 1), none, none, none, none]) d_Model_ofTiles_7 (Nat.le_of_ble_eq_true rfl) rfl ?_
  refine zq_iconst (v := 0) d_Model_ofTiles_9 zk_i0 ?_
  refine zr_istore (L' := [some (.ref 33), some (.int 0), some (.int 0), some (.int 0), some (.int 1), some (.int 0), none, none, none]) d_Model_ofTiles_10 (Nat.le_of_ble_eq_true rfl) rfl ?_
  refine zr_less (L' := [some (.ref 33), some (.int 0), some (.int 0), some (.int 0), some (.int 1), some (.int 0), none, none, none]) ⟨rfl, ⟨rfl, ⟨rfl, ⟨rfl, ⟨rfl, ⟨rfl, trivial⟩⟩⟩⟩⟩⟩ ?_
  obtain ⟨n12, hJ⟩ := hJ
  exact s_Model_ofTiles_L12   n12  hJ
set_option maxHeartbeats 400000 in
theorem s_Model_isSet_L25 {g : zk_T} {a1 : Int32} {a2 : Int32} {a3 : Int32} {K : Int32 → zm → Prop} {t0 : Int32} {m : zm} (hJ : j_Model_isSet_L25 a1 a2 a3  K t0 m) : zq_V (zk_g g) ("RiichiTableModel", prog_9_method_31_code, 4, (some .boolean), false, zq_rm 0 0 0) 0 0 25 [some (.ref 33), some (.int a1), some (.int a2), some (.int a3)] [.int t0] (zm_hp m) (zm_QI K) := by
  unfold j_Model_isSet_L25 at hJ
  exact zq_iret d_Model_isSet_25 rfl hJ.1.nar (Nat.le_refl _) (Nat.le_refl _) ⟨_, _, rfl, rfl, hJ.2⟩
set_option maxHeartbeats 400000 in
theorem s_Model_isSet_L24 {g : zk_T} {a1 : Int32} {a2 : Int32} {a3 : Int32} {K : Int32 → zm → Prop} {m : zm} (hJ : j_Model_isSet_L24 a1 a2 a3  K  m) : zq_V (zk_g g) ("RiichiTableModel", prog_9_method_31_code, 4, (some .boolean), false, zq_rm 0 0 0) 0 0 24 [some (.ref 33), some (.int a1), some (.int a2), some (.int a3)] [] (zm_hp m) (zm_QI K) := by
  unfold j_Model_isSet_L24 at hJ
  refine zq_iconst (v := 0) d_Model_isSet_24 zk_i0 ?_
  refine zr_less (L' := [some (.ref 33), some (.int a1), some (.int a2), some (.int a3)]) ⟨rfl, ⟨rfl, ⟨rfl, ⟨rfl, trivial⟩⟩⟩⟩ ?_
  exact s_Model_isSet_L25    hJ
set_option maxHeartbeats 400000 in
theorem s_Model_isSet {g : zk_T} {a1 : Int32} {a2 : Int32} {a3 : Int32} {K : Int32 → zm → Prop} {m : zm} (hJ : j_Model_isSet a1 a2 a3 m K) : zq_Mt (zk_g g) y_Model_isSet 0 0 0 [.ref 33, .int a1, .int a2, .int a3] (zm_hp m) (zm_QI K) := by
  unfold j_Model_isSet at hJ
  refine zq_meth (ini := false) rfl (fun h => by cases h) (Nat.le_of_ble_eq_true rfl) ?_
  refine zr_L (F := ("RiichiTableModel", prog_9_method_31_code, 4, (some .boolean), false, zq_rm 0 0 0)) (L' := [some (.ref 33), some (.int a1), some (.int a2), some (.int a3)]) rfl ?_
  refine zq_aload_n d_Model_isSet_0 rfl rfl ?_
  refine zm_getR fg_Model_72 d_Model_isSet_1 zs_Model rfl ?_
  refine zq_iload_n d_Model_isSet_4 rfl rfl ?_
  obtain ⟨hb, hJ⟩ := hJ
  refine zm_ald d_Model_isSet_5 (rfl : zm_sh[54]? = some (.inl (0, 8, .inl (fun _ => 0)))) hb ?_
  refine zq_iload_n d_Model_isSet_6 rfl rfl ?_
  refine zq_icmp_ne (tgt := 24) d_Model_isSet_7 (by decide) (fun c => ?_) (fun c => ?_)
  · have hJ := hJ.1 c
    refine zr_less (L' := [some (.ref 33), some (.int a1), some (.int a2), some (.int a3)]) ⟨rfl, ⟨rfl, ⟨rfl, ⟨rfl, trivial⟩⟩⟩⟩ ?_
    exact s_Model_isSet_L24    hJ
  · have hJ := hJ.2 c
    refine zq_aload_n d_Model_isSet_10 rfl rfl ?_
    refine zm_getR fg_Model_69 d_Model_isSet_11 zs_Model rfl ?_
    refine zq_iload_n d_Model_isSet_14 rfl rfl ?_
    obtain ⟨hb, hJ⟩ := hJ
    refine zm_ald d_Model_isSet_15 (rfl : zm_sh[53]? = some (.inl (0, 8, .inl (fun _ => 0)))) hb ?_
    refine zq_iload_n d_Model_isSet_16 rfl rfl ?_
    refine zq_icmp_ne (tgt := 24) d_Model_isSet_17 (by decide) (fun c => ?_) (fun c => ?_)
    · have hJ := hJ.1 c
      refine zr_less (L' := [some (.ref 33), some (.int a1), some (.int a2), some (.int a3)]) ⟨rfl, ⟨rfl, ⟨rfl, ⟨rfl, trivial⟩⟩⟩⟩ ?_
      exact s_Model_isSet_L24    hJ
    · have hJ := hJ.2 c
      refine zq_iconst (v := 1) d_Model_isSet_20 zk_i1 ?_
      refine zq_goto (tgt := 25) d_Model_isSet_21 (by decide) ?_
      refine zr_less (L' := [some (.ref 33), some (.int a1), some (.int a2), some (.int a3)]) ⟨rfl, ⟨rfl, ⟨rfl, ⟨rfl, trivial⟩⟩⟩⟩ ?_
      exact s_Model_isSet_L25    hJ
set_option maxHeartbeats 400000 in
theorem s_Model_has_L37 {g : zk_T} {a1 : Int32} {R4 : Int32 → Int32 → zm → Prop} {K : Int32 → zm → Prop} (hR4 : ∀ {x2 : Int32} {x3 : Int32} {m : zm}, R4 x2 x3 m → zq_V (zk_g g) ("RiichiTableModel", prog_9_method_32_code, 4, (some .boolean), false, zq_rm 0 0 0) 0 0 4 [some (.ref 33), some (.int a1), some (.int x2), some (.int x3)] [] (zm_hp m) (zm_QI K)) {x3 : Int32} {t0 : Int32} {m : zm} (hJ : j_Model_has_L37 a1 R4 K x3 t0 m) : zq_V (zk_g g) ("RiichiTableModel", prog_9_method_32_code, 4, (some .boolean), false, zq_rm 0 0 0) 0 0 37 [some (.ref 33), some (.int a1), none, some (.int x3)] [.int t0] (zm_hp m) (zm_QI K) := by
  unfold j_Model_has_L37 at hJ
  refine zr_istore_n (L' := [some (.ref 33), some (.int a1), some (.int t0), some (.int x3)]) d_Model_has_37 rfl (Nat.le_of_ble_eq_true rfl) rfl ?_
  refine zr_iinc (d' := 1) d_Model_has_38 zk_i1 rfl (Nat.le_of_ble_eq_true rfl) (fun y1 hy1 => ?_)
  have hJ := hJ y1 hy1
  refine zr_L (L' := [some (.ref 33), some (.int a1), some (.int t0), some (.int y1)]) rfl ?_
  refine zq_goto (tgt := 4) d_Model_has_41 (by decide) ?_
  refine zr_less (L' := [some (.ref 33), some (.int a1), some (.int t0), some (.int y1)]) ⟨rfl, ⟨rfl, ⟨rfl, ⟨rfl, trivial⟩⟩⟩⟩ ?_
  exact hR4  hJ
set_option maxHeartbeats 400000 in
theorem s_Model_has_L32 {g : zk_T} {a1 : Int32} {R4 : Int32 → Int32 → zm → Prop} {K : Int32 → zm → Prop} (hR4 : ∀ {x2 : Int32} {x3 : Int32} {m : zm}, R4 x2 x3 m → zq_V (zk_g g) ("RiichiTableModel", prog_9_method_32_code, 4, (some .boolean), false, zq_rm 0 0 0) 0 0 4 [some (.ref 33), some (.int a1), some (.int x2), some (.int x3)] [] (zm_hp m) (zm_QI K)) {x3 : Int32} {m : zm} (hJ : j_Model_has_L32 a1 R4 K x3 m) : zq_V (zk_g g) ("RiichiTableModel", prog_9_method_32_code, 4, (some .boolean), false, zq_rm 0 0 0) 0 0 32 [some (.ref 33), some (.int a1), none, some (.int x3)] [] (zm_hp m) (zm_QI K) := by
  unfold j_Model_has_L32 at hJ
  refine zq_iconst (v := 1) d_Model_has_32 zk_i1 ?_
  refine zq_goto (tgt := 37) d_Model_has_33 (by decide) ?_
  refine zr_less (L' := [some (.ref 33), some (.int a1), none, some (.int x3)]) ⟨rfl, ⟨rfl, ⟨rfl, trivial⟩⟩⟩ ?_
  exact s_Model_has_L37  hR4  hJ
set_option maxHeartbeats 400000 in
theorem s_Model_has_L36 {g : zk_T} {a1 : Int32} {R4 : Int32 → Int32 → zm → Prop} {K : Int32 → zm → Prop} (hR4 : ∀ {x2 : Int32} {x3 : Int32} {m : zm}, R4 x2 x3 m → zq_V (zk_g g) ("RiichiTableModel", prog_9_method_32_code, 4, (some .boolean), false, zq_rm 0 0 0) 0 0 4 [some (.ref 33), some (.int a1), some (.int x2), some (.int x3)] [] (zm_hp m) (zm_QI K)) {x3 : Int32} {m : zm} (hJ : j_Model_has_L36 a1 R4 K x3 m) : zq_V (zk_g g) ("RiichiTableModel", prog_9_method_32_code, 4, (some .boolean), false, zq_rm 0 0 0) 0 0 36 [some (.ref 33), some (.int a1), none, some (.int x3)] [] (zm_hp m) (zm_QI K) := by
  unfold j_Model_has_L36 at hJ
  refine zq_iconst (v := 0) d_Model_has_36 zk_i0 ?_
  refine zr_less (L' := [some (.ref 33), some (.int a1), none, some (.int x3)]) ⟨rfl, ⟨rfl, ⟨rfl, trivial⟩⟩⟩ ?_
  exact s_Model_has_L37  hR4  hJ
set_option maxHeartbeats 400000 in
theorem s_Model_has_L4 {g : zk_T} {a1 : Int32} {K : Int32 → zm → Prop} : ∀ (n : Nat) {x2 : Int32} {x3 : Int32} {m : zm}, j_Model_has_L4 a1  K n x2 x3 m → zq_V (zk_g g) ("RiichiTableModel", prog_9_method_32_code, 4, (some .boolean), false, zq_rm 0 0 0) 0 0 4 [some (.ref 33), some (.int a1), some (.int x2), some (.int x3)] [] (zm_hp m) (zm_QI K) := by
  intro n
  induction n with
  | zero =>
    intro x2 x3 m hJ
    exact False.elim hJ
  | succ n ih =>
    intro x2 x3 m hJ
    rw [j_Model_has_L4] at hJ
    refine zq_iload_n d_Model_has_4 rfl rfl ?_
    refine zq_iconst (v := 4) d_Model_has_5 zk_i4 ?_
    refine zq_icmp_ge (tgt := 44) d_Model_has_6 (by decide) (fun c => ?_) (fun c => ?_)
    · have hJ := hJ.1 c
      refine zq_iload_n d_Model_has_44 rfl rfl ?_
      exact zq_iret d_Model_has_45 rfl hJ.1.nar (Nat.le_refl _) (Nat.le_refl _) ⟨_, _, rfl, rfl, hJ.2⟩
    · have hJ := hJ.2 c
      refine zq_iload_n d_Model_has_9 rfl rfl ?_
      refine zq_if_ne (tgt := 32) d_Model_has_10 (by decide) (fun c => ?_) (fun c => ?_)
      · have hJ := hJ.1 c
        refine zr_less (L' := [some (.ref 33), some (.int a1), none, some (.int x3)]) ⟨rfl, ⟨rfl, ⟨rfl, trivial⟩⟩⟩ ?_
        exact s_Model_has_L32  ih  hJ
      · have hJ := hJ.2 c
        refine zq_aload_n d_Model_has_13 rfl rfl ?_
        refine zm_getR fg_Model_72 d_Model_has_14 zs_Model rfl ?_
        refine zq_iload_n d_Model_has_17 rfl rfl ?_
        obtain ⟨hb, hJ⟩ := hJ
        refine zm_ald d_Model_has_18 (rfl : zm_sh[54]? = some (.inl (0, 8, .inl (fun _ => 0)))) hb ?_
        refine zq_if_le (tgt := 36) d_Model_has_19 (by decide) (fun c => ?_) (fun c => ?_)
        · have hJ := hJ.1 c
          refine zr_less (L' := [some (.ref 33), some (.int a1), none, some (.int x3)]) ⟨rfl, ⟨rfl, ⟨rfl, trivial⟩⟩⟩ ?_
          exact s_Model_has_L36  ih  hJ
        · have hJ := hJ.2 c
          refine zq_aload_n d_Model_has_22 rfl rfl ?_
          refine zm_getR fg_Model_69 d_Model_has_23 zs_Model rfl ?_
          refine zq_iload_n d_Model_has_26 rfl rfl ?_
          obtain ⟨hb, hJ⟩ := hJ
          refine zm_ald d_Model_has_27 (rfl : zm_sh[53]? = some (.inl (0, 8, .inl (fun _ => 0)))) hb ?_
          refine zq_iload_n d_Model_has_28 rfl rfl ?_
          refine zq_icmp_ne (tgt := 36) d_Model_has_29 (by decide) (fun c => ?_) (fun c => ?_)
          · have hJ := hJ.1 c
            refine zr_less (L' := [some (.ref 33), some (.int a1), none, some (.int x3)]) ⟨rfl, ⟨rfl, ⟨rfl, trivial⟩⟩⟩ ?_
            exact s_Model_has_L36  ih  hJ
          · have hJ := hJ.2 c
            refine zr_less (L' := [some (.ref 33), some (.int a1), none, some (.int x3)]) ⟨rfl, ⟨rfl, ⟨rfl, trivial⟩⟩⟩ ?_
            exact s_Model_has_L32  ih  hJ
set_option maxHeartbeats 400000 in
theorem s_Model_has {g : zk_T} {a1 : Int32} {K : Int32 → zm → Prop} {m : zm} (hJ : j_Model_has a1 m K) : zq_Mt (zk_g g) y_Model_has 0 0 0 [.ref 33, .int a1] (zm_hp m) (zm_QI K) := by
  unfold j_Model_has at hJ
  refine zq_meth (ini := false) rfl (fun h => by cases h) (Nat.le_of_ble_eq_true rfl) ?_
  refine zr_L (F := ("RiichiTableModel", prog_9_method_32_code, 4, (some .boolean), false, zq_rm 0 0 0)) (L' := [some (.ref 33), some (.int a1), none, none]) rfl ?_
  refine zq_iconst (v := 0) d_Model_has_0 zk_i0 ?_
  refine zr_istore_n (L' := [some (.ref 33), some (.int a1), some (.int 0), none]) d_Model_has_1 rfl (Nat.le_of_ble_eq_true rfl) rfl ?_
  refine zq_iconst (v := 0) d_Model_has_2 zk_i0 ?_
  refine zr_istore_n (L' := [some (.ref 33), some (.int a1), some (.int 0), some (.int 0)]) d_Model_has_3 rfl (Nat.le_of_ble_eq_true rfl) rfl ?_
  refine zr_less (L' := [some (.ref 33), some (.int a1), some (.int 0), some (.int 0)]) ⟨rfl, ⟨rfl, ⟨rfl, ⟨rfl, trivial⟩⟩⟩⟩ ?_
  obtain ⟨n4, hJ⟩ := hJ
  exact s_Model_has_L4   n4  hJ
set_option maxHeartbeats 400000 in
theorem s_Model_hasRun_L28 {g : zk_T} {a1 : Int32} {R4 : Int32 → Int32 → zm → Prop} {K : Int32 → zm → Prop} (hR4 : ∀ {x2 : Int32} {x3 : Int32} {m : zm}, R4 x2 x3 m → zq_V (zk_g g) ("RiichiTableModel", prog_9_method_33_code, 4, (some .boolean), false, zq_rm 1 0 0) 0 0 4 [some (.ref 33), some (.int a1), some (.int x2), some (.int x3)] [] (zm_hp m) (zm_QI K)) {x3 : Int32} {t0 : Int32} {m : zm} (hJ : j_Model_hasRun_L28 a1 R4 K x3 t0 m) : zq_V (zk_g g) ("RiichiTableModel", prog_9_method_33_code, 4, (some .boolean), false, zq_rm 1 0 0) 0 0 28 [some (.ref 33), some (.int a1), none, some (.int x3)] [.int t0] (zm_hp m) (zm_QI K) := by
  unfold j_Model_hasRun_L28 at hJ
  refine zr_istore_n (L' := [some (.ref 33), some (.int a1), some (.int t0), some (.int x3)]) d_Model_hasRun_28 rfl (Nat.le_of_ble_eq_true rfl) rfl ?_
  refine zr_iinc (d' := 1) d_Model_hasRun_29 zk_i1 rfl (Nat.le_of_ble_eq_true rfl) (fun y3 hy3 => ?_)
  have hJ := hJ y3 hy3
  refine zr_L (L' := [some (.ref 33), some (.int a1), some (.int t0), some (.int y3)]) rfl ?_
  refine zq_goto (tgt := 4) d_Model_hasRun_32 (by decide) ?_
  refine zr_less (L' := [some (.ref 33), some (.int a1), some (.int t0), some (.int y3)]) ⟨rfl, ⟨rfl, ⟨rfl, ⟨rfl, trivial⟩⟩⟩⟩ ?_
  exact hR4  hJ
set_option maxHeartbeats 400000 in
theorem s_Model_hasRun_L23 {g : zk_T} {a1 : Int32} {R4 : Int32 → Int32 → zm → Prop} {K : Int32 → zm → Prop} (hR4 : ∀ {x2 : Int32} {x3 : Int32} {m : zm}, R4 x2 x3 m → zq_V (zk_g g) ("RiichiTableModel", prog_9_method_33_code, 4, (some .boolean), false, zq_rm 1 0 0) 0 0 4 [some (.ref 33), some (.int a1), some (.int x2), some (.int x3)] [] (zm_hp m) (zm_QI K)) {x3 : Int32} {m : zm} (hJ : j_Model_hasRun_L23 a1 R4 K x3 m) : zq_V (zk_g g) ("RiichiTableModel", prog_9_method_33_code, 4, (some .boolean), false, zq_rm 1 0 0) 0 0 23 [some (.ref 33), some (.int a1), none, some (.int x3)] [] (zm_hp m) (zm_QI K) := by
  unfold j_Model_hasRun_L23 at hJ
  refine zq_iconst (v := 1) d_Model_hasRun_23 zk_i1 ?_
  refine zq_goto (tgt := 28) d_Model_hasRun_24 (by decide) ?_
  refine zr_less (L' := [some (.ref 33), some (.int a1), none, some (.int x3)]) ⟨rfl, ⟨rfl, ⟨rfl, trivial⟩⟩⟩ ?_
  exact s_Model_hasRun_L28  hR4  hJ
set_option maxHeartbeats 400000 in
theorem s_Model_hasRun_L4 {g : zk_T} {a1 : Int32} {K : Int32 → zm → Prop} : ∀ (n : Nat) {x2 : Int32} {x3 : Int32} {m : zm}, j_Model_hasRun_L4 a1  K n x2 x3 m → zq_V (zk_g g) ("RiichiTableModel", prog_9_method_33_code, 4, (some .boolean), false, zq_rm 1 0 0) 0 0 4 [some (.ref 33), some (.int a1), some (.int x2), some (.int x3)] [] (zm_hp m) (zm_QI K) := by
  intro n
  induction n with
  | zero =>
    intro x2 x3 m hJ
    exact False.elim hJ
  | succ n ih =>
    intro x2 x3 m hJ
    rw [j_Model_hasRun_L4] at hJ
    refine zq_iload_n d_Model_hasRun_4 rfl rfl ?_
    refine zq_iconst (v := 4) d_Model_hasRun_5 zk_i4 ?_
    refine zq_icmp_ge (tgt := 35) d_Model_hasRun_6 (by decide) (fun c => ?_) (fun c => ?_)
    · have hJ := hJ.1 c
      refine zq_iload_n d_Model_hasRun_35 rfl rfl ?_
      exact zq_iret d_Model_hasRun_36 rfl hJ.1.nar (Nat.le_refl _) (Nat.le_refl _) ⟨_, _, rfl, rfl, hJ.2⟩
    · have hJ := hJ.2 c
      refine zq_iload_n d_Model_hasRun_9 rfl rfl ?_
      refine zq_if_ne (tgt := 23) d_Model_hasRun_10 (by decide) (fun c => ?_) (fun c => ?_)
      · have hJ := hJ.1 c
        refine zr_less (L' := [some (.ref 33), some (.int a1), none, some (.int x3)]) ⟨rfl, ⟨rfl, ⟨rfl, trivial⟩⟩⟩ ?_
        exact s_Model_hasRun_L23  ih  hJ
      · have hJ := hJ.2 c
        refine zq_aload_n d_Model_hasRun_13 rfl rfl ?_
        refine zq_iload_n d_Model_hasRun_14 rfl rfl ?_
        refine zq_iconst (v := 0) d_Model_hasRun_15 zk_i0 ?_
        refine zq_iload_n d_Model_hasRun_16 rfl rfl ?_
        refine zr_cvI (q := 33) (as := [.int x3, .int 0, .int a1]) (st := []) d_Model_hasRun_17 cc_Model_206 cv_Model_isSet zs_Model (s_Model_isSet  hJ) rfl ⟨Nat.le_of_ble_eq_true rfl, Nat.le_of_ble_eq_true rfl⟩ (Nat.le_of_ble_eq_true rfl) ⟨Nat.le_refl _, Nat.le_refl _⟩ rfl (fun r2 m1 hJ => ?_)
        refine zq_if_eq (tgt := 27) d_Model_hasRun_20 (by decide) (fun c => ?_) (fun c => ?_)
        · have hJ := hJ.1 c
          refine zq_iconst (v := 0) d_Model_hasRun_27 zk_i0 ?_
          refine zr_less (L' := [some (.ref 33), some (.int a1), none, some (.int x3)]) ⟨rfl, ⟨rfl, ⟨rfl, trivial⟩⟩⟩ ?_
          exact s_Model_hasRun_L28  ih  hJ
        · have hJ := hJ.2 c
          refine zr_less (L' := [some (.ref 33), some (.int a1), none, some (.int x3)]) ⟨rfl, ⟨rfl, ⟨rfl, trivial⟩⟩⟩ ?_
          exact s_Model_hasRun_L23  ih  hJ
set_option maxHeartbeats 400000 in
theorem s_Model_hasRun {g : zk_T} {a1 : Int32} {K : Int32 → zm → Prop} {m : zm} (hJ : j_Model_hasRun a1 m K) : zq_Mt (zk_g g) y_Model_hasRun 1 0 0 [.ref 33, .int a1] (zm_hp m) (zm_QI K) := by
  unfold j_Model_hasRun at hJ
  refine zq_meth (ini := false) rfl (fun h => by cases h) (Nat.le_of_ble_eq_true rfl) ?_
  refine zr_L (F := ("RiichiTableModel", prog_9_method_33_code, 4, (some .boolean), false, zq_rm 1 0 0)) (L' := [some (.ref 33), some (.int a1), none, none]) rfl ?_
  refine zq_iconst (v := 0) d_Model_hasRun_0 zk_i0 ?_
  refine zr_istore_n (L' := [some (.ref 33), some (.int a1), some (.int 0), none]) d_Model_hasRun_1 rfl (Nat.le_of_ble_eq_true rfl) rfl ?_
  refine zq_iconst (v := 0) d_Model_hasRun_2 zk_i0 ?_
  refine zr_istore_n (L' := [some (.ref 33), some (.int a1), some (.int 0), some (.int 0)]) d_Model_hasRun_3 rfl (Nat.le_of_ble_eq_true rfl) rfl ?_
  refine zr_less (L' := [some (.ref 33), some (.int a1), some (.int 0), some (.int 0)]) ⟨rfl, ⟨rfl, ⟨rfl, ⟨rfl, trivial⟩⟩⟩⟩ ?_
  obtain ⟨n4, hJ⟩ := hJ
  exact s_Model_hasRun_L4   n4  hJ
set_option maxHeartbeats 400000 in
theorem s_Model_isClosedSet_L37 {g : zk_T} {a1 : Int32} {K : Int32 → zm → Prop} {t0 : Int32} {m : zm} (hJ : j_Model_isClosedSet_L37 a1  K t0 m) : zq_V (zk_g g) ("RiichiTableModel", prog_9_method_34_code, 2, (some .boolean), false, zq_rm 0 0 0) 0 0 37 [some (.ref 33), some (.int a1)] [.int t0] (zm_hp m) (zm_QI K) := by
  unfold j_Model_isClosedSet_L37 at hJ
  exact zq_iret d_Model_isClosedSet_37 rfl hJ.1.nar (Nat.le_refl _) (Nat.le_refl _) ⟨_, _, rfl, rfl, hJ.2⟩
set_option maxHeartbeats 400000 in
theorem s_Model_isClosedSet_L32 {g : zk_T} {a1 : Int32} {K : Int32 → zm → Prop} {m : zm} (hJ : j_Model_isClosedSet_L32 a1  K  m) : zq_V (zk_g g) ("RiichiTableModel", prog_9_method_34_code, 2, (some .boolean), false, zq_rm 0 0 0) 0 0 32 [some (.ref 33), some (.int a1)] [] (zm_hp m) (zm_QI K) := by
  unfold j_Model_isClosedSet_L32 at hJ
  refine zq_iconst (v := 1) d_Model_isClosedSet_32 zk_i1 ?_
  refine zq_goto (tgt := 37) d_Model_isClosedSet_33 (by decide) ?_
  refine zr_less (L' := [some (.ref 33), some (.int a1)]) ⟨rfl, ⟨rfl, trivial⟩⟩ ?_
  exact s_Model_isClosedSet_L37    hJ
set_option maxHeartbeats 400000 in
theorem s_Model_isClosedSet_L36 {g : zk_T} {a1 : Int32} {K : Int32 → zm → Prop} {m : zm} (hJ : j_Model_isClosedSet_L36 a1  K  m) : zq_V (zk_g g) ("RiichiTableModel", prog_9_method_34_code, 2, (some .boolean), false, zq_rm 0 0 0) 0 0 36 [some (.ref 33), some (.int a1)] [] (zm_hp m) (zm_QI K) := by
  unfold j_Model_isClosedSet_L36 at hJ
  refine zq_iconst (v := 0) d_Model_isClosedSet_36 zk_i0 ?_
  refine zr_less (L' := [some (.ref 33), some (.int a1)]) ⟨rfl, ⟨rfl, trivial⟩⟩ ?_
  exact s_Model_isClosedSet_L37    hJ
set_option maxHeartbeats 400000 in
theorem s_Model_isClosedSet {g : zk_T} {a1 : Int32} {K : Int32 → zm → Prop} {m : zm} (hJ : j_Model_isClosedSet a1 m K) : zq_Mt (zk_g g) y_Model_isClosedSet 0 0 0 [.ref 33, .int a1] (zm_hp m) (zm_QI K) := by
  unfold j_Model_isClosedSet at hJ
  refine zq_meth (ini := false) rfl (fun h => by cases h) (Nat.le_of_ble_eq_true rfl) ?_
  refine zr_L (F := ("RiichiTableModel", prog_9_method_34_code, 2, (some .boolean), false, zq_rm 0 0 0)) (L' := [some (.ref 33), some (.int a1)]) rfl ?_
  refine zq_aload_n d_Model_isClosedSet_0 rfl rfl ?_
  refine zm_getR fg_Model_75 d_Model_isClosedSet_1 zs_Model rfl ?_
  refine zq_iload_n d_Model_isClosedSet_4 rfl rfl ?_
  obtain ⟨hb, hJ⟩ := hJ
  refine zm_zld d_Model_isClosedSet_5 (rfl : zm_sh[55]? = some (.inl (2, 8, .inl (fun _ => 0)))) hb ?_
  refine zq_if_ne (tgt := 36) d_Model_isClosedSet_6 (by decide) (fun c => ?_) (fun c => ?_)
  · have hJ := hJ.1 c
    refine zr_less (L' := [some (.ref 33), some (.int a1)]) ⟨rfl, ⟨rfl, trivial⟩⟩ ?_
    exact s_Model_isClosedSet_L36    hJ
  · have hJ := hJ.2 c
    refine zq_iload_n d_Model_isClosedSet_9 rfl rfl ?_
    refine zq_aload_n d_Model_isClosedSet_10 rfl rfl ?_
    refine zm_getI fg_Model_150 d_Model_isClosedSet_11 zs_Model rfl ?_
    refine zq_icmp_ge (tgt := 32) d_Model_isClosedSet_14 (by decide) (fun c => ?_) (fun c => ?_)
    · have hJ := hJ.1 c
      refine zr_less (L' := [some (.ref 33), some (.int a1)]) ⟨rfl, ⟨rfl, trivial⟩⟩ ?_
      exact s_Model_isClosedSet_L32    hJ
    · have hJ := hJ.2 c
      refine zq_aload_n d_Model_isClosedSet_17 rfl rfl ?_
      refine zm_getI fg_Model_191 d_Model_isClosedSet_18 zs_Model rfl ?_
      refine zq_if_ne (tgt := 32) d_Model_isClosedSet_21 (by decide) (fun c => ?_) (fun c => ?_)
      · have hJ := hJ.1 c
        refine zr_less (L' := [some (.ref 33), some (.int a1)]) ⟨rfl, ⟨rfl, trivial⟩⟩ ?_
        exact s_Model_isClosedSet_L32    hJ
      · have hJ := hJ.2 c
        refine zq_aload_n d_Model_isClosedSet_24 rfl rfl ?_
        refine zm_getI fg_Model_210 d_Model_isClosedSet_25 zs_Model rfl ?_
        refine zq_iload_n d_Model_isClosedSet_28 rfl rfl ?_
        refine zq_icmp_eq (tgt := 36) d_Model_isClosedSet_29 (by decide) (fun c => ?_) (fun c => ?_)
        · have hJ := hJ.1 c
          refine zr_less (L' := [some (.ref 33), some (.int a1)]) ⟨rfl, ⟨rfl, trivial⟩⟩ ?_
          exact s_Model_isClosedSet_L36    hJ
        · have hJ := hJ.2 c
          refine zr_less (L' := [some (.ref 33), some (.int a1)]) ⟨rfl, ⟨rfl, trivial⟩⟩ ?_
          exact s_Model_isClosedSet_L32    hJ
set_option maxHeartbeats 400000 in
theorem s_Model_runs_L25 {g : zk_T} {R4 : Int32 → Int32 → zm → Prop} {K : Int32 → zm → Prop} (hR4 : ∀ {x1 : Int32} {x2 : Int32} {m : zm}, R4 x1 x2 m → zq_V (zk_g g) ("RiichiTableModel", prog_9_method_35_code, 3, (some .int), false, zq_rm 0 0 0) 0 0 4 [some (.ref 33), some (.int x1), some (.int x2)] [] (zm_hp m) (zm_QI K)) {x2 : Int32} {t0 : Int32} {m : zm} (hJ : j_Model_runs_L25  R4 K x2 t0 m) : zq_V (zk_g g) ("RiichiTableModel", prog_9_method_35_code, 3, (some .int), false, zq_rm 0 0 0) 0 0 25 [some (.ref 33), none, some (.int x2)] [.int t0] (zm_hp m) (zm_QI K) := by
  unfold j_Model_runs_L25 at hJ
  refine zr_istore_n (L' := [some (.ref 33), some (.int t0), some (.int x2)]) d_Model_runs_25 rfl (Nat.le_of_ble_eq_true rfl) rfl ?_
  refine zr_iinc (d' := 1) d_Model_runs_26 zk_i1 rfl (Nat.le_of_ble_eq_true rfl) (fun y1 hy1 => ?_)
  have hJ := hJ y1 hy1
  refine zr_L (L' := [some (.ref 33), some (.int t0), some (.int y1)]) rfl ?_
  refine zq_goto (tgt := 4) d_Model_runs_29 (by decide) ?_
  refine zr_less (L' := [some (.ref 33), some (.int t0), some (.int y1)]) ⟨rfl, ⟨rfl, ⟨rfl, trivial⟩⟩⟩ ?_
  exact hR4  hJ
set_option maxHeartbeats 400000 in
theorem s_Model_runs_L4 {g : zk_T} {K : Int32 → zm → Prop} : ∀ (n : Nat) {x1 : Int32} {x2 : Int32} {m : zm}, j_Model_runs_L4   K n x1 x2 m → zq_V (zk_g g) ("RiichiTableModel", prog_9_method_35_code, 3, (some .int), false, zq_rm 0 0 0) 0 0 4 [some (.ref 33), some (.int x1), some (.int x2)] [] (zm_hp m) (zm_QI K) := by
  intro n
  induction n with
  | zero =>
    intro x1 x2 m hJ
    exact False.elim hJ
  | succ n ih =>
    intro x1 x2 m hJ
    rw [j_Model_runs_L4] at hJ
    refine zq_iload_n d_Model_runs_4 rfl rfl ?_
    refine zq_iconst (v := 4) d_Model_runs_5 zk_i4 ?_
    refine zq_icmp_ge (tgt := 32) d_Model_runs_6 (by decide) (fun c => ?_) (fun c => ?_)
    · have hJ := hJ.1 c
      refine zq_iload_n d_Model_runs_32 rfl rfl ?_
      exact zq_iret d_Model_runs_33 rfl rfl (Nat.le_refl _) (Nat.le_refl _) ⟨_, _, rfl, rfl, hJ⟩
    · have hJ := hJ.2 c
      refine zq_aload_n d_Model_runs_9 rfl rfl ?_
      refine zm_getR fg_Model_72 d_Model_runs_10 zs_Model rfl ?_
      refine zq_iload_n d_Model_runs_13 rfl rfl ?_
      obtain ⟨hb, hJ⟩ := hJ
      refine zm_ald d_Model_runs_14 (rfl : zm_sh[54]? = some (.inl (0, 8, .inl (fun _ => 0)))) hb ?_
      refine zq_if_ne (tgt := 24) d_Model_runs_15 (by decide) (fun c => ?_) (fun c => ?_)
      · have hJ := hJ.1 c
        refine zq_iload_n d_Model_runs_24 rfl rfl ?_
        refine zr_less (L' := [some (.ref 33), none, some (.int x2)]) ⟨rfl, ⟨rfl, trivial⟩⟩ ?_
        exact s_Model_runs_L25  ih  hJ
      · have hJ := hJ.2 c
        refine zq_iload_n d_Model_runs_18 rfl rfl ?_
        refine zq_iconst (v := 1) d_Model_runs_19 zk_i1 ?_
        refine zq_iadd d_Model_runs_20 ?_
        refine zq_goto (tgt := 25) d_Model_runs_21 (by decide) ?_
        refine zr_less (L' := [some (.ref 33), none, some (.int x2)]) ⟨rfl, ⟨rfl, trivial⟩⟩ ?_
        exact s_Model_runs_L25  ih  hJ
set_option maxHeartbeats 400000 in
theorem s_Model_runs {g : zk_T} {K : Int32 → zm → Prop} {m : zm} (hJ : j_Model_runs  m K) : zq_Mt (zk_g g) y_Model_runs 0 0 0 [.ref 33] (zm_hp m) (zm_QI K) := by
  unfold j_Model_runs at hJ
  refine zq_meth (ini := false) rfl (fun h => by cases h) (Nat.le_of_ble_eq_true rfl) ?_
  refine zr_L (F := ("RiichiTableModel", prog_9_method_35_code, 3, (some .int), false, zq_rm 0 0 0)) (L' := [some (.ref 33), none, none]) rfl ?_
  refine zq_iconst (v := 0) d_Model_runs_0 zk_i0 ?_
  refine zr_istore_n (L' := [some (.ref 33), some (.int 0), none]) d_Model_runs_1 rfl (Nat.le_of_ble_eq_true rfl) rfl ?_
  refine zq_iconst (v := 0) d_Model_runs_2 zk_i0 ?_
  refine zr_istore_n (L' := [some (.ref 33), some (.int 0), some (.int 0)]) d_Model_runs_3 rfl (Nat.le_of_ble_eq_true rfl) rfl ?_
  refine zr_less (L' := [some (.ref 33), some (.int 0), some (.int 0)]) ⟨rfl, ⟨rfl, ⟨rfl, trivial⟩⟩⟩ ?_
  obtain ⟨n4, hJ⟩ := hJ
  exact s_Model_runs_L4   n4  hJ
set_option maxHeartbeats 400000 in
theorem s_Model_flat_L70 {g : zk_T} {K : Int32 → zm → Prop} {m : zm} (hJ : j_Model_flat_L70   K  m) : zq_V (zk_g g) ("RiichiTableModel", prog_9_method_36_code, 4, (some .boolean), false, zq_rm 1 0 0) 0 0 70 [some (.ref 33), none, none, none] [] (zm_hp m) (zm_QI K) := by
  unfold j_Model_flat_L70 at hJ
  refine zq_iconst (v := 0) d_Model_flat_70 zk_i0 ?_
  exact zq_iret d_Model_flat_71 rfl (zm_isB.nar (Or.inl rfl)) (Nat.le_refl _) (Nat.le_refl _) ⟨_, _, rfl, rfl, hJ⟩
set_option maxHeartbeats 400000 in
theorem s_Model_flat_L125 {g : zk_T} {K : Int32 → zm → Prop} {t0 : Int32} {m : zm} (hJ : j_Model_flat_L125   K t0 m) : zq_V (zk_g g) ("RiichiTableModel", prog_9_method_36_code, 4, (some .boolean), false, zq_rm 1 0 0) 0 0 125 [some (.ref 33), none, none, none] [.int t0] (zm_hp m) (zm_QI K) := by
  unfold j_Model_flat_L125 at hJ
  exact zq_iret d_Model_flat_125 rfl hJ.1.nar (Nat.le_refl _) (Nat.le_refl _) ⟨_, _, rfl, rfl, hJ.2⟩
set_option maxHeartbeats 400000 in
theorem s_Model_flat_L120 {g : zk_T} {K : Int32 → zm → Prop} {m : zm} (hJ : j_Model_flat_L120   K  m) : zq_V (zk_g g) ("RiichiTableModel", prog_9_method_36_code, 4, (some .boolean), false, zq_rm 1 0 0) 0 0 120 [some (.ref 33), none, none, none] [] (zm_hp m) (zm_QI K) := by
  unfold j_Model_flat_L120 at hJ
  refine zq_iconst (v := 1) d_Model_flat_120 zk_i1 ?_
  refine zq_goto (tgt := 125) d_Model_flat_121 (by decide) ?_
  refine zr_less (L' := [some (.ref 33), none, none, none]) ⟨rfl, trivial⟩ ?_
  exact s_Model_flat_L125    hJ
set_option maxHeartbeats 400000 in
theorem s_Model_flat_L124 {g : zk_T} {K : Int32 → zm → Prop} {m : zm} (hJ : j_Model_flat_L124   K  m) : zq_V (zk_g g) ("RiichiTableModel", prog_9_method_36_code, 4, (some .boolean), false, zq_rm 1 0 0) 0 0 124 [some (.ref 33), none, none, none] [] (zm_hp m) (zm_QI K) := by
  unfold j_Model_flat_L124 at hJ
  refine zq_iconst (v := 0) d_Model_flat_124 zk_i0 ?_
  refine zr_less (L' := [some (.ref 33), none, none, none]) ⟨rfl, trivial⟩ ?_
  exact s_Model_flat_L125    hJ
set_option maxHeartbeats 400000 in
theorem s_Model_flat_L110 {g : zk_T} {K : Int32 → zm → Prop} {x2 : Int32} {x3 : Int32} {m : zm} (hJ : j_Model_flat_L110   K x2 x3 m) : zq_V (zk_g g) ("RiichiTableModel", prog_9_method_36_code, 4, (some .boolean), false, zq_rm 1 0 0) 0 0 110 [some (.ref 33), none, some (.int x2), some (.int x3)] [] (zm_hp m) (zm_QI K) := by
  unfold j_Model_flat_L110 at hJ
  refine zq_iload_n d_Model_flat_110 rfl rfl ?_
  refine zq_iconst (v := 2) d_Model_flat_111 zk_i2 ?_
  refine zq_icmp_ne (tgt := 124) d_Model_flat_112 (by decide) (fun c => ?_) (fun c => ?_)
  · have hJ := hJ.1 c
    refine zr_less (L' := [some (.ref 33), none, none, none]) ⟨rfl, trivial⟩ ?_
    exact s_Model_flat_L124    hJ
  · have hJ := hJ.2 c
    refine zq_iload_n d_Model_flat_115 rfl rfl ?_
    refine zq_iconst (v := 1) d_Model_flat_116 zk_i1 ?_
    refine zq_icmp_le (tgt := 124) d_Model_flat_117 (by decide) (fun c => ?_) (fun c => ?_)
    · have hJ := hJ.1 c
      refine zr_less (L' := [some (.ref 33), none, none, none]) ⟨rfl, trivial⟩ ?_
      exact s_Model_flat_L124    hJ
    · have hJ := hJ.2 c
      refine zr_less (L' := [some (.ref 33), none, none, none]) ⟨rfl, trivial⟩ ?_
      exact s_Model_flat_L120    hJ
set_option maxHeartbeats 400000 in
theorem s_Model_flat_L39 {g : zk_T} {K : Int32 → zm → Prop} {t0 : Int32} {m : zm} (hJ : j_Model_flat_L39   K t0 m) : zq_V (zk_g g) ("RiichiTableModel", prog_9_method_36_code, 4, (some .boolean), false, zq_rm 1 0 0) 0 0 39 [some (.ref 33), none, none, none] [.int t0] (zm_hp m) (zm_QI K) := by
  unfold j_Model_flat_L39 at hJ
  refine zr_istore_n (L' := [some (.ref 33), some (.int t0), none, none]) d_Model_flat_39 rfl (Nat.le_of_ble_eq_true rfl) rfl ?_
  refine zq_aload_n d_Model_flat_40 rfl rfl ?_
  refine zq_aload_n d_Model_flat_41 rfl rfl ?_
  refine zm_getI fg_Model_184 d_Model_flat_42 zs_Model rfl ?_
  refine zr_cvI (q := 33) (as := [.int (m.1 33 32)]) (st := []) d_Model_flat_45 cc_Model_194 cv_Model_isClosed zs_Model (s_Model_isClosed  hJ) rfl ⟨Nat.le_of_ble_eq_true rfl, Nat.le_of_ble_eq_true rfl⟩ (Nat.le_of_ble_eq_true rfl) ⟨Nat.le_refl _, Nat.le_refl _⟩ rfl (fun r4 m3 hJ => ?_)
  refine zq_if_eq (tgt := 70) d_Model_flat_48 (by decide) (fun c => ?_) (fun c => ?_)
  · have hJ := hJ.1 c
    refine zr_less (L' := [some (.ref 33), none, none, none]) ⟨rfl, trivial⟩ ?_
    exact s_Model_flat_L70    hJ
  · have hJ := hJ.2 c
    refine zq_aload_n d_Model_flat_51 rfl rfl ?_
    refine zr_cvI (q := 33) (as := []) (st := []) d_Model_flat_52 cc_Model_219 cv_Model_runs zs_Model (s_Model_runs  hJ) rfl ⟨Nat.le_of_ble_eq_true rfl, Nat.le_of_ble_eq_true rfl⟩ (Nat.le_of_ble_eq_true rfl) ⟨Nat.le_refl _, Nat.le_refl _⟩ rfl (fun r6 m5 hJ => ?_)
    refine zq_iconst (v := 4) d_Model_flat_55 zk_i4 ?_
    refine zq_icmp_lt (tgt := 70) d_Model_flat_56 (by decide) (fun c => ?_) (fun c => ?_)
    · have hJ := hJ.1 c
      refine zr_less (L' := [some (.ref 33), none, none, none]) ⟨rfl, trivial⟩ ?_
      exact s_Model_flat_L70    hJ
    · have hJ := hJ.2 c
      refine zq_iload_n d_Model_flat_59 rfl rfl ?_
      refine zq_if_eq (tgt := 70) d_Model_flat_60 (by decide) (fun c => ?_) (fun c => ?_)
      · have hJ := hJ.1 c
        refine zr_less (L' := [some (.ref 33), none, none, none]) ⟨rfl, trivial⟩ ?_
        exact s_Model_flat_L70    hJ
      · have hJ := hJ.2 c
        refine zq_aload_n d_Model_flat_63 rfl rfl ?_
        refine zm_getI fg_Model_210 d_Model_flat_64 zs_Model rfl ?_
        refine zq_if_ge (tgt := 72) d_Model_flat_67 (by decide) (fun c => ?_) (fun c => ?_)
        · have hJ := hJ.1 c
          refine zq_aload_n d_Model_flat_72 rfl rfl ?_
          refine zm_getR fg_Model_69 d_Model_flat_73 zs_Model rfl ?_
          refine zq_aload_n d_Model_flat_76 rfl rfl ?_
          refine zm_getI fg_Model_210 d_Model_flat_77 zs_Model rfl ?_
          obtain ⟨hb, hJ⟩ := hJ
          refine zm_ald d_Model_flat_80 (rfl : zm_sh[53]? = some (.inl (0, 8, .inl (fun _ => 0)))) hb ?_
          refine zr_csI (as := [.int (m5.1 53 (Int32.toNatClampNeg (m5.1 33 45)))]) (st := []) d_Model_flat_81 cc_Model_147 cs_Model_rank (s_Model_rank  hJ) rfl ⟨Nat.le_of_ble_eq_true rfl, Nat.le_of_ble_eq_true rfl⟩ (Nat.le_of_ble_eq_true rfl) ⟨Nat.le_refl _, Nat.le_refl _⟩ rfl (fun r8 m7 hJ => ?_)
          refine zr_istore_n (L' := [some (.ref 33), some (.int t0), some (.int r8), none]) d_Model_flat_84 rfl (Nat.le_of_ble_eq_true rfl) rfl ?_
          refine zq_aload_n d_Model_flat_85 rfl rfl ?_
          refine zm_getI fg_Model_222 d_Model_flat_86 zs_Model rfl ?_
          refine zq_aload_n d_Model_flat_89 rfl rfl ?_
          refine zm_getR fg_Model_69 d_Model_flat_90 zs_Model rfl ?_
          refine zq_aload_n d_Model_flat_93 rfl rfl ?_
          refine zm_getI fg_Model_210 d_Model_flat_94 zs_Model rfl ?_
          obtain ⟨hb, hJ⟩ := hJ
          refine zm_ald d_Model_flat_97 (rfl : zm_sh[53]? = some (.inl (0, 8, .inl (fun _ => 0)))) hb ?_
          refine zq_isub d_Model_flat_98 ?_
          refine zr_topi (fun y9 hy9 => ?_)
          have hJ := hJ y9 hy9
          refine zr_istore_n (L' := [some (.ref 33), some (.int t0), some (.int r8), some (.int y9)]) d_Model_flat_99 rfl (Nat.le_of_ble_eq_true rfl) rfl ?_
          refine zq_iload_n d_Model_flat_100 rfl rfl ?_
          refine zq_if_ne (tgt := 110) d_Model_flat_101 (by decide) (fun c => ?_) (fun c => ?_)
          · have hJ := hJ.1 c
            refine zr_less (L' := [some (.ref 33), none, some (.int r8), some (.int y9)]) ⟨rfl, ⟨rfl, ⟨rfl, trivial⟩⟩⟩ ?_
            exact s_Model_flat_L110    hJ
          · have hJ := hJ.2 c
            refine zq_iload_n d_Model_flat_104 rfl rfl ?_
            refine zq_bipush (v := 7) d_Model_flat_105 zk_b7 ?_
            refine zq_icmp_lt (tgt := 120) d_Model_flat_107 (by decide) (fun c => ?_) (fun c => ?_)
            · have hJ := hJ.1 c
              refine zr_less (L' := [some (.ref 33), none, none, none]) ⟨rfl, trivial⟩ ?_
              exact s_Model_flat_L120    hJ
            · have hJ := hJ.2 c
              refine zr_less (L' := [some (.ref 33), none, some (.int r8), some (.int y9)]) ⟨rfl, ⟨rfl, ⟨rfl, trivial⟩⟩⟩ ?_
              exact s_Model_flat_L110    hJ
        · have hJ := hJ.2 c
          refine zr_less (L' := [some (.ref 33), none, none, none]) ⟨rfl, trivial⟩ ?_
          exact s_Model_flat_L70    hJ
set_option maxHeartbeats 400000 in
theorem s_Model_flat_L38 {g : zk_T} {K : Int32 → zm → Prop} {m : zm} (hJ : j_Model_flat_L38   K  m) : zq_V (zk_g g) ("RiichiTableModel", prog_9_method_36_code, 4, (some .boolean), false, zq_rm 1 0 0) 0 0 38 [some (.ref 33), none, none, none] [] (zm_hp m) (zm_QI K) := by
  unfold j_Model_flat_L38 at hJ
  refine zq_iconst (v := 0) d_Model_flat_38 zk_i0 ?_
  refine zr_less (L' := [some (.ref 33), none, none, none]) ⟨rfl, trivial⟩ ?_
  exact s_Model_flat_L39    hJ
set_option maxHeartbeats 400000 in
theorem s_Model_flat {g : zk_T} {K : Int32 → zm → Prop} {m : zm} (hJ : j_Model_flat  m K) : zq_Mt (zk_g g) y_Model_flat 1 0 0 [.ref 33] (zm_hp m) (zm_QI K) := by
  unfold j_Model_flat at hJ
  refine zq_meth (ini := false) rfl (fun h => by cases h) (Nat.le_of_ble_eq_true rfl) ?_
  refine zr_L (F := ("RiichiTableModel", prog_9_method_36_code, 4, (some .boolean), false, zq_rm 1 0 0)) (L' := [some (.ref 33), none, none, none]) rfl ?_
  refine zq_aload_n d_Model_flat_0 rfl rfl ?_
  refine zm_getI fg_Model_137 d_Model_flat_1 zs_Model rfl ?_
  refine zq_bipush (v := 31) d_Model_flat_4 zk_b31 ?_
  refine zq_icmp_ge (tgt := 38) d_Model_flat_6 (by decide) (fun c => ?_) (fun c => ?_)
  · have hJ := hJ.1 c
    refine zr_less (L' := [some (.ref 33), none, none, none]) ⟨rfl, trivial⟩ ?_
    exact s_Model_flat_L38    hJ
  · have hJ := hJ.2 c
    refine zq_aload_n d_Model_flat_9 rfl rfl ?_
    refine zm_getI fg_Model_137 d_Model_flat_10 zs_Model rfl ?_
    refine zq_aload_n d_Model_flat_13 rfl rfl ?_
    refine zr_cvI (q := 33) (as := []) (st := [.int (m.1 33 44)]) d_Model_flat_14 cc_Model_213 cv_Model_seatWind zs_Model (s_Model_seatWind  hJ) rfl ⟨Nat.le_of_ble_eq_true rfl, Nat.le_of_ble_eq_true rfl⟩ (Nat.le_of_ble_eq_true rfl) ⟨Nat.le_refl _, Nat.le_refl _⟩ rfl (fun r2 m1 hJ => ?_)
    refine zq_icmp_eq (tgt := 38) d_Model_flat_17 (by decide) (fun c => ?_) (fun c => ?_)
    · have hJ := hJ.1 c
      refine zr_less (L' := [some (.ref 33), none, none, none]) ⟨rfl, trivial⟩ ?_
      exact s_Model_flat_L38    hJ
    · have hJ := hJ.2 c
      refine zq_aload_n d_Model_flat_20 rfl rfl ?_
      refine zm_getI fg_Model_137 d_Model_flat_21 zs_Model rfl ?_
      refine zq_bipush (v := 27) d_Model_flat_24 zk_b27 ?_
      refine zq_aload_n d_Model_flat_26 rfl rfl ?_
      refine zm_getI fg_Model_216 d_Model_flat_27 zs_Model rfl ?_
      refine zq_iadd d_Model_flat_30 ?_
      refine zq_icmp_eq (tgt := 38) d_Model_flat_31 (by decide) (fun c => ?_) (fun c => ?_)
      · have hJ := hJ.1 c
        refine zr_less (L' := [some (.ref 33), none, none, none]) ⟨rfl, trivial⟩ ?_
        exact s_Model_flat_L38    hJ
      · have hJ := hJ.2 c
        refine zq_iconst (v := 1) d_Model_flat_34 zk_i1 ?_
        refine zq_goto (tgt := 39) d_Model_flat_35 (by decide) ?_
        refine zr_less (L' := [some (.ref 33), none, none, none]) ⟨rfl, trivial⟩ ?_
        exact s_Model_flat_L39    hJ
set_option maxHeartbeats 400000 in
theorem s_Model_twins_L39 {g : zk_T} {R4 : Int32 → Int32 → zm → Prop} {R15 : Int32 → Int32 → Int32 → Int32 → zm → Prop} {K : Int32 → zm → Prop} (hR4 : ∀ {x1 : Int32} {x2 : Int32} {m : zm}, R4 x1 x2 m → zq_V (zk_g g) ("RiichiTableModel", prog_9_method_37_code, 5, (some .int), false, zq_rm 1 0 0) 0 0 4 [some (.ref 33), some (.int x1), some (.int x2), none, none] [] (zm_hp m) (zm_QI K)) (hR15 : ∀ {x1 : Int32} {x2 : Int32} {x3 : Int32} {x4 : Int32} {m : zm}, R15 x1 x2 x3 x4 m → zq_V (zk_g g) ("RiichiTableModel", prog_9_method_37_code, 5, (some .int), false, zq_rm 1 0 0) 0 0 15 [some (.ref 33), some (.int x1), some (.int x2), some (.int x3), some (.int x4)] [] (zm_hp m) (zm_QI K)) {x1 : Int32} {x2 : Int32} {x4 : Int32} {t0 : Int32} {m : zm} (hJ : j_Model_twins_L39  R4 R15 K x1 x2 x4 t0 m) : zq_V (zk_g g) ("RiichiTableModel", prog_9_method_37_code, 5, (some .int), false, zq_rm 1 0 0) 0 0 39 [some (.ref 33), some (.int x1), some (.int x2), none, some (.int x4)] [.int t0] (zm_hp m) (zm_QI K) := by
  unfold j_Model_twins_L39 at hJ
  refine zr_istore_n (L' := [some (.ref 33), some (.int x1), some (.int x2), some (.int t0), some (.int x4)]) d_Model_twins_39 rfl (Nat.le_of_ble_eq_true rfl) rfl ?_
  refine zr_iinc (d' := 1) d_Model_twins_40 zk_i1 rfl (Nat.le_of_ble_eq_true rfl) (fun y5 hy5 => ?_)
  have hJ := hJ y5 hy5
  refine zr_L (L' := [some (.ref 33), some (.int x1), some (.int x2), some (.int t0), some (.int y5)]) rfl ?_
  refine zq_goto (tgt := 15) d_Model_twins_43 (by decide) ?_
  refine zr_less (L' := [some (.ref 33), some (.int x1), some (.int x2), some (.int t0), some (.int y5)]) ⟨rfl, ⟨rfl, ⟨rfl, ⟨rfl, ⟨rfl, trivial⟩⟩⟩⟩⟩ ?_
  exact hR15  hJ
set_option maxHeartbeats 400000 in
theorem s_Model_twins_L15 {g : zk_T} {R4 : Int32 → Int32 → zm → Prop} {K : Int32 → zm → Prop} (hR4 : ∀ {x1 : Int32} {x2 : Int32} {m : zm}, R4 x1 x2 m → zq_V (zk_g g) ("RiichiTableModel", prog_9_method_37_code, 5, (some .int), false, zq_rm 1 0 0) 0 0 4 [some (.ref 33), some (.int x1), some (.int x2), none, none] [] (zm_hp m) (zm_QI K)) : ∀ (n : Nat) {x1 : Int32} {x2 : Int32} {x3 : Int32} {x4 : Int32} {m : zm}, j_Model_twins_L15  R4 K n x1 x2 x3 x4 m → zq_V (zk_g g) ("RiichiTableModel", prog_9_method_37_code, 5, (some .int), false, zq_rm 1 0 0) 0 0 15 [some (.ref 33), some (.int x1), some (.int x2), some (.int x3), some (.int x4)] [] (zm_hp m) (zm_QI K) := by
  intro n
  induction n with
  | zero =>
    intro x1 x2 x3 x4 m hJ
    exact False.elim hJ
  | succ n ih =>
    intro x1 x2 x3 x4 m hJ
    rw [j_Model_twins_L15] at hJ
    refine zq_iload d_Model_twins_15 rfl ?_
    refine zq_iconst (v := 4) d_Model_twins_17 zk_i4 ?_
    refine zq_icmp_ge (tgt := 46) d_Model_twins_18 (by decide) (fun c => ?_) (fun c => ?_)
    · have hJ := hJ.1 c
      refine zq_iload_n d_Model_twins_46 rfl rfl ?_
      refine zq_iload_n d_Model_twins_47 rfl rfl ?_
      refine zq_iconst (v := 2) d_Model_twins_48 zk_i2 ?_
      refine zq_idiv d_Model_twins_49 (by decide) ?_
      refine zq_iadd d_Model_twins_50 ?_
      refine zr_topi (fun y1 hy1 => ?_)
      have hJ := hJ y1 hy1
      refine zr_istore_n (L' := [some (.ref 33), some (.int y1), some (.int x2), some (.int x3), some (.int x4)]) d_Model_twins_51 rfl (Nat.le_of_ble_eq_true rfl) rfl ?_
      refine zr_iinc (d' := 1) d_Model_twins_52 zk_i1 rfl (Nat.le_of_ble_eq_true rfl) (fun y2 hy2 => ?_)
      have hJ := hJ y2 hy2
      refine zr_L (L' := [some (.ref 33), some (.int y1), some (.int y2), some (.int x3), some (.int x4)]) rfl ?_
      refine zq_goto (tgt := 4) d_Model_twins_55 (by decide) ?_
      refine zr_less (L' := [some (.ref 33), some (.int y1), some (.int y2), none, none]) ⟨rfl, ⟨rfl, ⟨rfl, trivial⟩⟩⟩ ?_
      exact hR4  hJ
    · have hJ := hJ.2 c
      refine zq_aload_n d_Model_twins_21 rfl rfl ?_
      refine zq_iload d_Model_twins_22 rfl ?_
      refine zq_iconst (v := 0) d_Model_twins_24 zk_i0 ?_
      refine zq_iload_n d_Model_twins_25 rfl rfl ?_
      refine zr_cvI (q := 33) (as := [.int x4, .int 0, .int x2]) (st := []) d_Model_twins_26 cc_Model_206 cv_Model_isSet zs_Model (s_Model_isSet  hJ) rfl ⟨Nat.le_of_ble_eq_true rfl, Nat.le_of_ble_eq_true rfl⟩ (Nat.le_of_ble_eq_true rfl) ⟨Nat.le_refl _, Nat.le_refl _⟩ rfl (fun r4 m3 hJ => ?_)
      refine zq_if_eq (tgt := 38) d_Model_twins_29 (by decide) (fun c => ?_) (fun c => ?_)
      · have hJ := hJ.1 c
        refine zq_iload_n d_Model_twins_38 rfl rfl ?_
        refine zr_less (L' := [some (.ref 33), some (.int x1), some (.int x2), none, some (.int x4)]) ⟨rfl, ⟨rfl, ⟨rfl, ⟨rfl, trivial⟩⟩⟩⟩ ?_
        exact s_Model_twins_L39  hR4 ih  hJ
      · have hJ := hJ.2 c
        refine zq_iload_n d_Model_twins_32 rfl rfl ?_
        refine zq_iconst (v := 1) d_Model_twins_33 zk_i1 ?_
        refine zq_iadd d_Model_twins_34 ?_
        refine zq_goto (tgt := 39) d_Model_twins_35 (by decide) ?_
        refine zr_less (L' := [some (.ref 33), some (.int x1), some (.int x2), none, some (.int x4)]) ⟨rfl, ⟨rfl, ⟨rfl, ⟨rfl, trivial⟩⟩⟩⟩ ?_
        exact s_Model_twins_L39  hR4 ih  hJ
set_option maxHeartbeats 400000 in
theorem s_Model_twins_L4 {g : zk_T} {K : Int32 → zm → Prop} : ∀ (n : Nat) {x1 : Int32} {x2 : Int32} {m : zm}, j_Model_twins_L4   K n x1 x2 m → zq_V (zk_g g) ("RiichiTableModel", prog_9_method_37_code, 5, (some .int), false, zq_rm 1 0 0) 0 0 4 [some (.ref 33), some (.int x1), some (.int x2), none, none] [] (zm_hp m) (zm_QI K) := by
  intro n
  induction n with
  | zero =>
    intro x1 x2 m hJ
    exact False.elim hJ
  | succ n ih =>
    intro x1 x2 m hJ
    rw [j_Model_twins_L4] at hJ
    refine zq_iload_n d_Model_twins_4 rfl rfl ?_
    refine zq_bipush (v := 25) d_Model_twins_5 zk_b25 ?_
    refine zq_icmp_ge (tgt := 58) d_Model_twins_7 (by decide) (fun c => ?_) (fun c => ?_)
    · have hJ := hJ.1 c
      refine zq_iload_n d_Model_twins_58 rfl rfl ?_
      exact zq_iret d_Model_twins_59 rfl rfl (Nat.le_refl _) (Nat.le_refl _) ⟨_, _, rfl, rfl, hJ⟩
    · have hJ := hJ.2 c
      refine zq_iconst (v := 0) d_Model_twins_10 zk_i0 ?_
      refine zr_istore_n (L' := [some (.ref 33), some (.int x1), some (.int x2), some (.int 0), none]) d_Model_twins_11 rfl (Nat.le_of_ble_eq_true rfl) rfl ?_
      refine zq_iconst (v := 0) d_Model_twins_12 zk_i0 ?_
      refine zr_istore (L' := [some (.ref 33), some (.int x1), some (.int x2), some (.int 0), some (.int 0)]) d_Model_twins_13 (Nat.le_of_ble_eq_true rfl) rfl ?_
      refine zr_less (L' := [some (.ref 33), some (.int x1), some (.int x2), some (.int 0), some (.int 0)]) ⟨rfl, ⟨rfl, ⟨rfl, ⟨rfl, ⟨rfl, trivial⟩⟩⟩⟩⟩ ?_
      obtain ⟨n15, hJ⟩ := hJ
      exact s_Model_twins_L15  ih n15  hJ
set_option maxHeartbeats 400000 in
theorem s_Model_twins {g : zk_T} {K : Int32 → zm → Prop} {m : zm} (hJ : j_Model_twins  m K) : zq_Mt (zk_g g) y_Model_twins 1 0 0 [.ref 33] (zm_hp m) (zm_QI K) := by
  unfold j_Model_twins at hJ
  refine zq_meth (ini := false) rfl (fun h => by cases h) (Nat.le_of_ble_eq_true rfl) ?_
  refine zr_L (F := ("RiichiTableModel", prog_9_method_37_code, 5, (some .int), false, zq_rm 1 0 0)) (L' := [some (.ref 33), none, none, none, none]) rfl ?_
  refine zq_iconst (v := 0) d_Model_twins_0 zk_i0 ?_
  refine zr_istore_n (L' := [some (.ref 33), some (.int 0), none, none, none]) d_Model_twins_1 rfl (Nat.le_of_ble_eq_true rfl) rfl ?_
  refine zq_iconst (v := 0) d_Model_twins_2 zk_i0 ?_
  refine zr_istore_n (L' := [some (.ref 33), some (.int 0), some (.int 0), none, none]) d_Model_twins_3 rfl (Nat.le_of_ble_eq_true rfl) rfl ?_
  refine zr_less (L' := [some (.ref 33), some (.int 0), some (.int 0), none, none]) ⟨rfl, ⟨rfl, ⟨rfl, trivial⟩⟩⟩ ?_
  obtain ⟨n4, hJ⟩ := hJ
  exact s_Model_twins_L4   n4  hJ
set_option maxHeartbeats 400000 in
theorem s_Model_ofRuns_L115 {g : zk_T} {R68 : Int64 → Int32 → zm → Prop} {K : Int64 → zm → Prop} (hR68 : ∀ {x2 : Int64} {x4 : Int32} {m : zm}, R68 x2 x4 m → zq_V (zk_g g) ("RiichiTableModel", prog_9_method_38_code, 8, (some .long), false, zq_rm 2 0 0) 0 0 68 [some (.ref 33), none, some (.long x2), none, some (.int x4), none, none, none] [] (zm_hp m) (zm_QL K)) {x4 : Int32} {t0 : Int32} {t2 : Int64} {m : zm} (hJ : j_Model_ofRuns_L115  R68 K x4 t0 t2 m) : zq_V (zk_g g) ("RiichiTableModel", prog_9_method_38_code, 8, (some .long), false, zq_rm 2 0 0) 0 0 115 [some (.ref 33), none, none, none, some (.int x4), none, none, none] [.int t0, .ref 33, .long t2] (zm_hp m) (zm_QL K) := by
  unfold j_Model_ofRuns_L115 at hJ
  refine zq_bipush (v := 15) d_Model_ofRuns_115 zk_b15 ?_
  refine zr_cvL (q := 33) (as := [.int t0, .int 15]) (st := [.long t2]) d_Model_ofRuns_117 cc_Model_187 cv_Model_bit zs_Model (s_Model_bit  hJ) rfl ⟨Nat.le_of_ble_eq_true rfl, Nat.le_of_ble_eq_true rfl⟩ (Nat.le_of_ble_eq_true rfl) ⟨Nat.le_refl _, Nat.le_refl _⟩ rfl (fun r21 m20 hJ => ?_)
  refine zq_lor d_Model_ofRuns_120 ?_
  refine zr_topl (fun y22 hy22 => ?_)
  have hJ := hJ y22 hy22
  refine zr_lstore_n (L' := [some (.ref 33), none, some (.long y22), none, some (.int x4), none, none, none]) d_Model_ofRuns_121 rfl (Nat.le_of_ble_eq_true rfl) rfl ?_
  refine zr_iinc (d' := 1) d_Model_ofRuns_122 zk_i1 rfl (Nat.le_of_ble_eq_true rfl) (fun y23 hy23 => ?_)
  have hJ := hJ y23 hy23
  refine zr_L (L' := [some (.ref 33), none, some (.long y22), none, some (.int y23), none, none, none]) rfl ?_
  refine zq_goto (tgt := 68) d_Model_ofRuns_125 (by decide) ?_
  refine zr_less (L' := [some (.ref 33), none, some (.long y22), none, some (.int y23), none, none, none]) ⟨rfl, ⟨rfl, ⟨rfl, trivial⟩⟩⟩ ?_
  exact hR68  hJ
set_option maxHeartbeats 400000 in
theorem s_Model_ofRuns_L114 {g : zk_T} {R68 : Int64 → Int32 → zm → Prop} {K : Int64 → zm → Prop} (hR68 : ∀ {x2 : Int64} {x4 : Int32} {m : zm}, R68 x2 x4 m → zq_V (zk_g g) ("RiichiTableModel", prog_9_method_38_code, 8, (some .long), false, zq_rm 2 0 0) 0 0 68 [some (.ref 33), none, some (.long x2), none, some (.int x4), none, none, none] [] (zm_hp m) (zm_QL K)) {x4 : Int32} {t1 : Int64} {m : zm} (hJ : j_Model_ofRuns_L114  R68 K x4 t1 m) : zq_V (zk_g g) ("RiichiTableModel", prog_9_method_38_code, 8, (some .long), false, zq_rm 2 0 0) 0 0 114 [some (.ref 33), none, none, none, some (.int x4), none, none, none] [.ref 33, .long t1] (zm_hp m) (zm_QL K) := by
  unfold j_Model_ofRuns_L114 at hJ
  refine zq_iconst (v := 0) d_Model_ofRuns_114 zk_i0 ?_
  refine zr_less (L' := [some (.ref 33), none, none, none, some (.int x4), none, none, none]) ⟨rfl, ⟨rfl, trivial⟩⟩ ?_
  exact s_Model_ofRuns_L115  hR68  hJ
set_option maxHeartbeats 400000 in
theorem s_Model_ofRuns_L177 {g : zk_T} {R131 : Int64 → Int32 → zm → Prop} {K : Int64 → zm → Prop} (hR131 : ∀ {x2 : Int64} {x4 : Int32} {m : zm}, R131 x2 x4 m → zq_V (zk_g g) ("RiichiTableModel", prog_9_method_38_code, 8, (some .long), false, zq_rm 2 0 0) 0 0 131 [some (.ref 33), none, some (.long x2), none, some (.int x4), none, none, none] [] (zm_hp m) (zm_QL K)) {x4 : Int32} {t0 : Int32} {t2 : Int64} {m : zm} (hJ : j_Model_ofRuns_L177  R131 K x4 t0 t2 m) : zq_V (zk_g g) ("RiichiTableModel", prog_9_method_38_code, 8, (some .long), false, zq_rm 2 0 0) 0 0 177 [some (.ref 33), none, none, none, some (.int x4), none, none, none] [.int t0, .ref 33, .long t2] (zm_hp m) (zm_QL K) := by
  unfold j_Model_ofRuns_L177 at hJ
  refine zq_bipush (v := 16) d_Model_ofRuns_177 zk_b16 ?_
  refine zr_cvL (q := 33) (as := [.int t0, .int 16]) (st := [.long t2]) d_Model_ofRuns_179 cc_Model_187 cv_Model_bit zs_Model (s_Model_bit  hJ) rfl ⟨Nat.le_of_ble_eq_true rfl, Nat.le_of_ble_eq_true rfl⟩ (Nat.le_of_ble_eq_true rfl) ⟨Nat.le_refl _, Nat.le_refl _⟩ rfl (fun r33 m32 hJ => ?_)
  refine zq_lor d_Model_ofRuns_182 ?_
  refine zr_topl (fun y34 hy34 => ?_)
  have hJ := hJ y34 hy34
  refine zr_lstore_n (L' := [some (.ref 33), none, some (.long y34), none, some (.int x4), none, none, none]) d_Model_ofRuns_183 rfl (Nat.le_of_ble_eq_true rfl) rfl ?_
  refine zr_iinc (d' := 9) d_Model_ofRuns_184 zk_i9 rfl (Nat.le_of_ble_eq_true rfl) (fun y35 hy35 => ?_)
  have hJ := hJ y35 hy35
  refine zr_L (L' := [some (.ref 33), none, some (.long y34), none, some (.int y35), none, none, none]) rfl ?_
  refine zq_goto (tgt := 131) d_Model_ofRuns_187 (by decide) ?_
  refine zr_less (L' := [some (.ref 33), none, some (.long y34), none, some (.int y35), none, none, none]) ⟨rfl, ⟨rfl, ⟨rfl, trivial⟩⟩⟩ ?_
  exact hR131  hJ
set_option maxHeartbeats 400000 in
theorem s_Model_ofRuns_L176 {g : zk_T} {R131 : Int64 → Int32 → zm → Prop} {K : Int64 → zm → Prop} (hR131 : ∀ {x2 : Int64} {x4 : Int32} {m : zm}, R131 x2 x4 m → zq_V (zk_g g) ("RiichiTableModel", prog_9_method_38_code, 8, (some .long), false, zq_rm 2 0 0) 0 0 131 [some (.ref 33), none, some (.long x2), none, some (.int x4), none, none, none] [] (zm_hp m) (zm_QL K)) {x4 : Int32} {t1 : Int64} {m : zm} (hJ : j_Model_ofRuns_L176  R131 K x4 t1 m) : zq_V (zk_g g) ("RiichiTableModel", prog_9_method_38_code, 8, (some .long), false, zq_rm 2 0 0) 0 0 176 [some (.ref 33), none, none, none, some (.int x4), none, none, none] [.ref 33, .long t1] (zm_hp m) (zm_QL K) := by
  unfold j_Model_ofRuns_L176 at hJ
  refine zq_iconst (v := 0) d_Model_ofRuns_176 zk_i0 ?_
  refine zr_less (L' := [some (.ref 33), none, none, none, some (.int x4), none, none, none]) ⟨rfl, ⟨rfl, trivial⟩⟩ ?_
  exact s_Model_ofRuns_L177  hR131  hJ
set_option maxHeartbeats 400000 in
theorem s_Model_ofRuns_L290 {g : zk_T} {R218 : Int64 → Int32 → Int32 → Int32 → zm → Prop} {K : Int64 → zm → Prop} (hR218 : ∀ {x2 : Int64} {x4 : Int32} {x5 : Int32} {x6 : Int32} {m : zm}, R218 x2 x4 x5 x6 m → zq_V (zk_g g) ("RiichiTableModel", prog_9_method_38_code, 8, (some .long), false, zq_rm 2 0 0) 0 0 218 [some (.ref 33), none, some (.long x2), none, some (.int x4), some (.int x5), some (.int x6), none] [] (zm_hp m) (zm_QL K)) {x2 : Int64} {x4 : Int32} {x6 : Int32} {t0 : Int32} {m : zm} (hJ : j_Model_ofRuns_L290  R218 K x2 x4 x6 t0 m) : zq_V (zk_g g) ("RiichiTableModel", prog_9_method_38_code, 8, (some .long), false, zq_rm 2 0 0) 0 0 290 [some (.ref 33), none, some (.long x2), none, some (.int x4), none, some (.int x6), none] [.int t0] (zm_hp m) (zm_QL K) := by
  unfold j_Model_ofRuns_L290 at hJ
  refine zr_istore (L' := [some (.ref 33), none, some (.long x2), none, some (.int x4), some (.int t0), some (.int x6), none]) d_Model_ofRuns_290 (Nat.le_of_ble_eq_true rfl) rfl ?_
  refine zr_iinc (d' := 1) d_Model_ofRuns_292 zk_i1 rfl (Nat.le_of_ble_eq_true rfl) (fun y43 hy43 => ?_)
  have hJ := hJ y43 hy43
  refine zr_L (L' := [some (.ref 33), none, some (.long x2), none, some (.int x4), some (.int t0), some (.int y43), none]) rfl ?_
  refine zq_goto (tgt := 218) d_Model_ofRuns_295 (by decide) ?_
  refine zr_less (L' := [some (.ref 33), none, some (.long x2), none, some (.int x4), some (.int t0), some (.int y43), none]) ⟨rfl, ⟨rfl, ⟨rfl, ⟨rfl, ⟨rfl, trivial⟩⟩⟩⟩⟩ ?_
  exact hR218  hJ
set_option maxHeartbeats 400000 in
theorem s_Model_ofRuns_L285 {g : zk_T} {R218 : Int64 → Int32 → Int32 → Int32 → zm → Prop} {K : Int64 → zm → Prop} (hR218 : ∀ {x2 : Int64} {x4 : Int32} {x5 : Int32} {x6 : Int32} {m : zm}, R218 x2 x4 x5 x6 m → zq_V (zk_g g) ("RiichiTableModel", prog_9_method_38_code, 8, (some .long), false, zq_rm 2 0 0) 0 0 218 [some (.ref 33), none, some (.long x2), none, some (.int x4), some (.int x5), some (.int x6), none] [] (zm_hp m) (zm_QL K)) {x2 : Int64} {x4 : Int32} {x6 : Int32} {m : zm} (hJ : j_Model_ofRuns_L285  R218 K x2 x4 x6 m) : zq_V (zk_g g) ("RiichiTableModel", prog_9_method_38_code, 8, (some .long), false, zq_rm 2 0 0) 0 0 285 [some (.ref 33), none, some (.long x2), none, some (.int x4), none, some (.int x6), none] [] (zm_hp m) (zm_QL K) := by
  unfold j_Model_ofRuns_L285 at hJ
  refine zq_iconst (v := 1) d_Model_ofRuns_285 zk_i1 ?_
  refine zq_goto (tgt := 290) d_Model_ofRuns_286 (by decide) ?_
  refine zr_less (L' := [some (.ref 33), none, some (.long x2), none, some (.int x4), none, some (.int x6), none]) ⟨rfl, ⟨rfl, ⟨rfl, ⟨rfl, trivial⟩⟩⟩⟩ ?_
  exact s_Model_ofRuns_L290  hR218  hJ
set_option maxHeartbeats 400000 in
theorem s_Model_ofRuns_L271 {g : zk_T} {R218 : Int64 → Int32 → Int32 → Int32 → zm → Prop} {K : Int64 → zm → Prop} (hR218 : ∀ {x2 : Int64} {x4 : Int32} {x5 : Int32} {x6 : Int32} {m : zm}, R218 x2 x4 x5 x6 m → zq_V (zk_g g) ("RiichiTableModel", prog_9_method_38_code, 8, (some .long), false, zq_rm 2 0 0) 0 0 218 [some (.ref 33), none, some (.long x2), none, some (.int x4), some (.int x5), some (.int x6), none] [] (zm_hp m) (zm_QL K)) {x2 : Int64} {x5 : Int32} {x6 : Int32} {x7 : Int32} {t0 : Int32} {m : zm} (hJ : j_Model_ofRuns_L271  R218 K x2 x5 x6 x7 t0 m) : zq_V (zk_g g) ("RiichiTableModel", prog_9_method_38_code, 8, (some .long), false, zq_rm 2 0 0) 0 0 271 [some (.ref 33), none, some (.long x2), none, none, some (.int x5), some (.int x6), some (.int x7)] [.int t0] (zm_hp m) (zm_QL K) := by
  unfold j_Model_ofRuns_L271 at hJ
  refine zr_istore (L' := [some (.ref 33), none, some (.long x2), none, some (.int t0), some (.int x5), some (.int x6), some (.int x7)]) d_Model_ofRuns_271 (Nat.le_of_ble_eq_true rfl) rfl ?_
  refine zq_iload d_Model_ofRuns_273 rfl ?_
  refine zq_if_ne (tgt := 285) d_Model_ofRuns_275 (by decide) (fun c => ?_) (fun c => ?_)
  · have hJ := hJ.1 c
    refine zr_less (L' := [some (.ref 33), none, some (.long x2), none, some (.int t0), none, some (.int x6), none]) ⟨rfl, ⟨rfl, ⟨rfl, ⟨rfl, trivial⟩⟩⟩⟩ ?_
    exact s_Model_ofRuns_L285  hR218  hJ
  · have hJ := hJ.2 c
    refine zq_iload d_Model_ofRuns_278 rfl ?_
    refine zq_bipush (v := 27) d_Model_ofRuns_280 zk_b27 ?_
    refine zq_icmp_lt (tgt := 289) d_Model_ofRuns_282 (by decide) (fun c => ?_) (fun c => ?_)
    · have hJ := hJ.1 c
      refine zq_iconst (v := 0) d_Model_ofRuns_289 zk_i0 ?_
      refine zr_less (L' := [some (.ref 33), none, some (.long x2), none, some (.int t0), none, some (.int x6), none]) ⟨rfl, ⟨rfl, ⟨rfl, ⟨rfl, trivial⟩⟩⟩⟩ ?_
      exact s_Model_ofRuns_L290  hR218  hJ
    · have hJ := hJ.2 c
      refine zr_less (L' := [some (.ref 33), none, some (.long x2), none, some (.int t0), none, some (.int x6), none]) ⟨rfl, ⟨rfl, ⟨rfl, ⟨rfl, trivial⟩⟩⟩⟩ ?_
      exact s_Model_ofRuns_L285  hR218  hJ
set_option maxHeartbeats 400000 in
theorem s_Model_ofRuns_L266 {g : zk_T} {R218 : Int64 → Int32 → Int32 → Int32 → zm → Prop} {K : Int64 → zm → Prop} (hR218 : ∀ {x2 : Int64} {x4 : Int32} {x5 : Int32} {x6 : Int32} {m : zm}, R218 x2 x4 x5 x6 m → zq_V (zk_g g) ("RiichiTableModel", prog_9_method_38_code, 8, (some .long), false, zq_rm 2 0 0) 0 0 218 [some (.ref 33), none, some (.long x2), none, some (.int x4), some (.int x5), some (.int x6), none] [] (zm_hp m) (zm_QL K)) {x2 : Int64} {x5 : Int32} {x6 : Int32} {x7 : Int32} {m : zm} (hJ : j_Model_ofRuns_L266  R218 K x2 x5 x6 x7 m) : zq_V (zk_g g) ("RiichiTableModel", prog_9_method_38_code, 8, (some .long), false, zq_rm 2 0 0) 0 0 266 [some (.ref 33), none, some (.long x2), none, none, some (.int x5), some (.int x6), some (.int x7)] [] (zm_hp m) (zm_QL K) := by
  unfold j_Model_ofRuns_L266 at hJ
  refine zq_iconst (v := 1) d_Model_ofRuns_266 zk_i1 ?_
  refine zq_goto (tgt := 271) d_Model_ofRuns_267 (by decide) ?_
  refine zr_less (L' := [some (.ref 33), none, some (.long x2), none, none, some (.int x5), some (.int x6), some (.int x7)]) ⟨rfl, ⟨rfl, ⟨rfl, ⟨rfl, ⟨rfl, trivial⟩⟩⟩⟩⟩ ?_
  exact s_Model_ofRuns_L271  hR218  hJ
set_option maxHeartbeats 400000 in
theorem s_Model_ofRuns_L270 {g : zk_T} {R218 : Int64 → Int32 → Int32 → Int32 → zm → Prop} {K : Int64 → zm → Prop} (hR218 : ∀ {x2 : Int64} {x4 : Int32} {x5 : Int32} {x6 : Int32} {m : zm}, R218 x2 x4 x5 x6 m → zq_V (zk_g g) ("RiichiTableModel", prog_9_method_38_code, 8, (some .long), false, zq_rm 2 0 0) 0 0 218 [some (.ref 33), none, some (.long x2), none, some (.int x4), some (.int x5), some (.int x6), none] [] (zm_hp m) (zm_QL K)) {x2 : Int64} {x5 : Int32} {x6 : Int32} {x7 : Int32} {m : zm} (hJ : j_Model_ofRuns_L270  R218 K x2 x5 x6 x7 m) : zq_V (zk_g g) ("RiichiTableModel", prog_9_method_38_code, 8, (some .long), false, zq_rm 2 0 0) 0 0 270 [some (.ref 33), none, some (.long x2), none, none, some (.int x5), some (.int x6), some (.int x7)] [] (zm_hp m) (zm_QL K) := by
  unfold j_Model_ofRuns_L270 at hJ
  refine zq_iconst (v := 0) d_Model_ofRuns_270 zk_i0 ?_
  refine zr_less (L' := [some (.ref 33), none, some (.long x2), none, none, some (.int x5), some (.int x6), some (.int x7)]) ⟨rfl, ⟨rfl, ⟨rfl, ⟨rfl, ⟨rfl, trivial⟩⟩⟩⟩⟩ ?_
  exact s_Model_ofRuns_L271  hR218  hJ
set_option maxHeartbeats 400000 in
theorem s_Model_ofRuns_L361 {g : zk_T} {K : Int64 → zm → Prop} {t0 : Int32} {t2 : Int64} {m : zm} (hJ : j_Model_ofRuns_L361   K t0 t2 m) : zq_V (zk_g g) ("RiichiTableModel", prog_9_method_38_code, 8, (some .long), false, zq_rm 2 0 0) 0 0 361 [some (.ref 33), none, none, none, none, none, none, none] [.int t0, .ref 33, .long t2] (zm_hp m) (zm_QL K) := by
  unfold j_Model_ofRuns_L361 at hJ
  refine zq_bipush (v := 18) d_Model_ofRuns_361 zk_b18 ?_
  refine zr_cvL (q := 33) (as := [.int t0, .int 18]) (st := [.long t2]) d_Model_ofRuns_363 cc_Model_187 cv_Model_bit zs_Model (s_Model_bit  hJ) rfl ⟨Nat.le_of_ble_eq_true rfl, Nat.le_of_ble_eq_true rfl⟩ (Nat.le_of_ble_eq_true rfl) ⟨Nat.le_refl _, Nat.le_refl _⟩ rfl (fun r47 m46 hJ => ?_)
  refine zq_lor d_Model_ofRuns_366 ?_
  exact zq_lret d_Model_ofRuns_367 rfl (Nat.le_refl _) (Nat.le_refl _) ⟨_, _, rfl, rfl, hJ⟩
set_option maxHeartbeats 400000 in
theorem s_Model_ofRuns_L360 {g : zk_T} {K : Int64 → zm → Prop} {t1 : Int64} {m : zm} (hJ : j_Model_ofRuns_L360   K t1 m) : zq_V (zk_g g) ("RiichiTableModel", prog_9_method_38_code, 8, (some .long), false, zq_rm 2 0 0) 0 0 360 [some (.ref 33), none, none, none, none, none, none, none] [.ref 33, .long t1] (zm_hp m) (zm_QL K) := by
  unfold j_Model_ofRuns_L360 at hJ
  refine zq_iconst (v := 0) d_Model_ofRuns_360 zk_i0 ?_
  refine zr_less (L' := [some (.ref 33), none, none, none, none, none, none, none]) ⟨rfl, trivial⟩ ?_
  exact s_Model_ofRuns_L361    hJ
set_option maxHeartbeats 400000 in
theorem s_Model_ofRuns_L334 {g : zk_T} {K : Int64 → zm → Prop} {x4 : Int32} {x5 : Int32} {x6 : Int32} {t0 : Int32} {t2 : Int64} {m : zm} (hJ : j_Model_ofRuns_L334   K x4 x5 x6 t0 t2 m) : zq_V (zk_g g) ("RiichiTableModel", prog_9_method_38_code, 8, (some .long), false, zq_rm 2 0 0) 0 0 334 [some (.ref 33), none, none, none, some (.int x4), some (.int x5), some (.int x6), none] [.int t0, .ref 33, .long t2] (zm_hp m) (zm_QL K) := by
  unfold j_Model_ofRuns_L334 at hJ
  refine zq_bipush (v := 17) d_Model_ofRuns_334 zk_b17 ?_
  refine zr_cvL (q := 33) (as := [.int t0, .int 17]) (st := [.long t2]) d_Model_ofRuns_336 cc_Model_187 cv_Model_bit zs_Model (s_Model_bit  hJ) rfl ⟨Nat.le_of_ble_eq_true rfl, Nat.le_of_ble_eq_true rfl⟩ (Nat.le_of_ble_eq_true rfl) ⟨Nat.le_refl _, Nat.le_refl _⟩ rfl (fun r45 m44 hJ => ?_)
  refine zq_lor d_Model_ofRuns_339 ?_
  refine zq_aload_n d_Model_ofRuns_340 rfl rfl ?_
  refine zq_iload d_Model_ofRuns_341 rfl ?_
  refine zq_if_eq (tgt := 360) d_Model_ofRuns_343 (by decide) (fun c => ?_) (fun c => ?_)
  · have hJ := hJ.1 c
    refine zr_less (L' := [some (.ref 33), none, none, none, none, none, none, none]) ⟨rfl, trivial⟩ ?_
    exact s_Model_ofRuns_L360    hJ
  · have hJ := hJ.2 c
    refine zq_iload d_Model_ofRuns_346 rfl ?_
    refine zq_if_eq (tgt := 360) d_Model_ofRuns_348 (by decide) (fun c => ?_) (fun c => ?_)
    · have hJ := hJ.1 c
      refine zr_less (L' := [some (.ref 33), none, none, none, none, none, none, none]) ⟨rfl, trivial⟩ ?_
      exact s_Model_ofRuns_L360    hJ
    · have hJ := hJ.2 c
      refine zq_iload d_Model_ofRuns_351 rfl ?_
      refine zq_if_ne (tgt := 360) d_Model_ofRuns_353 (by decide) (fun c => ?_) (fun c => ?_)
      · have hJ := hJ.1 c
        refine zr_less (L' := [some (.ref 33), none, none, none, none, none, none, none]) ⟨rfl, trivial⟩ ?_
        exact s_Model_ofRuns_L360    hJ
      · have hJ := hJ.2 c
        refine zq_iconst (v := 1) d_Model_ofRuns_356 zk_i1 ?_
        refine zq_goto (tgt := 361) d_Model_ofRuns_357 (by decide) ?_
        refine zr_less (L' := [some (.ref 33), none, none, none, none, none, none, none]) ⟨rfl, trivial⟩ ?_
        exact s_Model_ofRuns_L361    hJ
set_option maxHeartbeats 400000 in
theorem s_Model_ofRuns_L333 {g : zk_T} {K : Int64 → zm → Prop} {x4 : Int32} {x5 : Int32} {x6 : Int32} {t1 : Int64} {m : zm} (hJ : j_Model_ofRuns_L333   K x4 x5 x6 t1 m) : zq_V (zk_g g) ("RiichiTableModel", prog_9_method_38_code, 8, (some .long), false, zq_rm 2 0 0) 0 0 333 [some (.ref 33), none, none, none, some (.int x4), some (.int x5), some (.int x6), none] [.ref 33, .long t1] (zm_hp m) (zm_QL K) := by
  unfold j_Model_ofRuns_L333 at hJ
  refine zq_iconst (v := 0) d_Model_ofRuns_333 zk_i0 ?_
  refine zr_less (L' := [some (.ref 33), none, none, none, some (.int x4), some (.int x5), some (.int x6), none]) ⟨rfl, ⟨rfl, ⟨rfl, ⟨rfl, trivial⟩⟩⟩⟩ ?_
  exact s_Model_ofRuns_L334    hJ
set_option maxHeartbeats 400000 in
theorem s_Model_ofRuns_L310 {g : zk_T} {K : Int64 → zm → Prop} {x2 : Int64} {x4 : Int32} {x5 : Int32} {t0 : Int32} {m : zm} (hJ : j_Model_ofRuns_L310   K x2 x4 x5 t0 m) : zq_V (zk_g g) ("RiichiTableModel", prog_9_method_38_code, 8, (some .long), false, zq_rm 2 0 0) 0 0 310 [some (.ref 33), none, some (.long x2), none, some (.int x4), some (.int x5), none, none] [.int t0] (zm_hp m) (zm_QL K) := by
  unfold j_Model_ofRuns_L310 at hJ
  refine zr_istore (L' := [some (.ref 33), none, some (.long x2), none, some (.int x4), some (.int x5), some (.int t0), none]) d_Model_ofRuns_310 (Nat.le_of_ble_eq_true rfl) rfl ?_
  refine zq_lload_n d_Model_ofRuns_312 rfl rfl ?_
  refine zq_aload_n d_Model_ofRuns_313 rfl rfl ?_
  refine zq_iload d_Model_ofRuns_314 rfl ?_
  refine zq_if_eq (tgt := 333) d_Model_ofRuns_316 (by decide) (fun c => ?_) (fun c => ?_)
  · have hJ := hJ.1 c
    refine zr_less (L' := [some (.ref 33), none, none, none, some (.int x4), some (.int x5), some (.int t0), none]) ⟨rfl, ⟨rfl, ⟨rfl, ⟨rfl, trivial⟩⟩⟩⟩ ?_
    exact s_Model_ofRuns_L333    hJ
  · have hJ := hJ.2 c
    refine zq_iload d_Model_ofRuns_319 rfl ?_
    refine zq_if_eq (tgt := 333) d_Model_ofRuns_321 (by decide) (fun c => ?_) (fun c => ?_)
    · have hJ := hJ.1 c
      refine zr_less (L' := [some (.ref 33), none, none, none, some (.int x4), some (.int x5), some (.int t0), none]) ⟨rfl, ⟨rfl, ⟨rfl, ⟨rfl, trivial⟩⟩⟩⟩ ?_
      exact s_Model_ofRuns_L333    hJ
    · have hJ := hJ.2 c
      refine zq_iload d_Model_ofRuns_324 rfl ?_
      refine zq_if_eq (tgt := 333) d_Model_ofRuns_326 (by decide) (fun c => ?_) (fun c => ?_)
      · have hJ := hJ.1 c
        refine zr_less (L' := [some (.ref 33), none, none, none, some (.int x4), some (.int x5), some (.int t0), none]) ⟨rfl, ⟨rfl, ⟨rfl, ⟨rfl, trivial⟩⟩⟩⟩ ?_
        exact s_Model_ofRuns_L333    hJ
      · have hJ := hJ.2 c
        refine zq_iconst (v := 1) d_Model_ofRuns_329 zk_i1 ?_
        refine zq_goto (tgt := 334) d_Model_ofRuns_330 (by decide) ?_
        refine zr_less (L' := [some (.ref 33), none, none, none, some (.int x4), some (.int x5), some (.int t0), none]) ⟨rfl, ⟨rfl, ⟨rfl, ⟨rfl, trivial⟩⟩⟩⟩ ?_
        exact s_Model_ofRuns_L334    hJ
set_option maxHeartbeats 400000 in
theorem s_Model_ofRuns_L218 {g : zk_T} {K : Int64 → zm → Prop} : ∀ (n : Nat) {x2 : Int64} {x4 : Int32} {x5 : Int32} {x6 : Int32} {m : zm}, j_Model_ofRuns_L218   K n x2 x4 x5 x6 m → zq_V (zk_g g) ("RiichiTableModel", prog_9_method_38_code, 8, (some .long), false, zq_rm 2 0 0) 0 0 218 [some (.ref 33), none, some (.long x2), none, some (.int x4), some (.int x5), some (.int x6), none] [] (zm_hp m) (zm_QL K) := by
  intro n
  induction n with
  | zero =>
    intro x2 x4 x5 x6 m hJ
    exact False.elim hJ
  | succ n ih =>
    intro x2 x4 x5 x6 m hJ
    rw [j_Model_ofRuns_L218] at hJ
    refine zq_iload d_Model_ofRuns_218 rfl ?_
    refine zq_iconst (v := 4) d_Model_ofRuns_220 zk_i4 ?_
    refine zq_icmp_ge (tgt := 298) d_Model_ofRuns_221 (by decide) (fun c => ?_) (fun c => ?_)
    · have hJ := hJ.1 c
      refine zq_aload_n d_Model_ofRuns_298 rfl rfl ?_
      refine zr_cvI (q := 33) (as := []) (st := []) d_Model_ofRuns_299 cc_Model_219 cv_Model_runs zs_Model (s_Model_runs  hJ) rfl ⟨Nat.le_of_ble_eq_true rfl, Nat.le_of_ble_eq_true rfl⟩ (Nat.le_of_ble_eq_true rfl) ⟨Nat.le_refl _, Nat.le_refl _⟩ rfl (fun r37 m36 hJ => ?_)
      refine zq_if_le (tgt := 309) d_Model_ofRuns_302 (by decide) (fun c => ?_) (fun c => ?_)
      · have hJ := hJ.1 c
        refine zq_iconst (v := 0) d_Model_ofRuns_309 zk_i0 ?_
        refine zr_less (L' := [some (.ref 33), none, some (.long x2), none, some (.int x4), some (.int x5), none, none]) ⟨rfl, ⟨rfl, ⟨rfl, ⟨rfl, trivial⟩⟩⟩⟩ ?_
        exact s_Model_ofRuns_L310    hJ
      · have hJ := hJ.2 c
        refine zq_iconst (v := 1) d_Model_ofRuns_305 zk_i1 ?_
        refine zq_goto (tgt := 310) d_Model_ofRuns_306 (by decide) ?_
        refine zr_less (L' := [some (.ref 33), none, some (.long x2), none, some (.int x4), some (.int x5), none, none]) ⟨rfl, ⟨rfl, ⟨rfl, ⟨rfl, trivial⟩⟩⟩⟩ ?_
        exact s_Model_ofRuns_L310    hJ
    · have hJ := hJ.2 c
      refine zq_aload_n d_Model_ofRuns_224 rfl rfl ?_
      refine zm_getR fg_Model_69 d_Model_ofRuns_225 zs_Model rfl ?_
      refine zq_iload d_Model_ofRuns_228 rfl ?_
      obtain ⟨hb, hJ⟩ := hJ
      refine zm_ald d_Model_ofRuns_230 (rfl : zm_sh[53]? = some (.inl (0, 8, .inl (fun _ => 0)))) hb ?_
      refine zr_topi (fun y38 hy38 => ?_)
      have hJ := hJ y38 hy38
      refine zr_istore (L' := [some (.ref 33), none, some (.long x2), none, some (.int x4), some (.int x5), some (.int x6), some (.int y38)]) d_Model_ofRuns_231 (Nat.le_of_ble_eq_true rfl) rfl ?_
      refine zq_iload d_Model_ofRuns_233 rfl ?_
      refine zq_if_eq (tgt := 270) d_Model_ofRuns_235 (by decide) (fun c => ?_) (fun c => ?_)
      · have hJ := hJ.1 c
        refine zr_less (L' := [some (.ref 33), none, some (.long x2), none, none, some (.int x5), some (.int x6), some (.int y38)]) ⟨rfl, ⟨rfl, ⟨rfl, ⟨rfl, ⟨rfl, trivial⟩⟩⟩⟩⟩ ?_
        exact s_Model_ofRuns_L270  ih  hJ
      · have hJ := hJ.2 c
        refine zq_iload d_Model_ofRuns_238 rfl ?_
        refine zr_csI (as := [.int y38]) (st := []) d_Model_ofRuns_240 cc_Model_133 cs_Model_outer (s_Model_outer  hJ) rfl ⟨Nat.le_of_ble_eq_true rfl, Nat.le_of_ble_eq_true rfl⟩ (Nat.le_of_ble_eq_true rfl) ⟨Nat.le_refl _, Nat.le_refl _⟩ rfl (fun r40 m39 hJ => ?_)
        refine zq_if_ne (tgt := 266) d_Model_ofRuns_243 (by decide) (fun c => ?_) (fun c => ?_)
        · have hJ := hJ.1 c
          refine zr_less (L' := [some (.ref 33), none, some (.long x2), none, none, some (.int x5), some (.int x6), some (.int y38)]) ⟨rfl, ⟨rfl, ⟨rfl, ⟨rfl, ⟨rfl, trivial⟩⟩⟩⟩⟩ ?_
          exact s_Model_ofRuns_L266  ih  hJ
        · have hJ := hJ.2 c
          refine zq_aload_n d_Model_ofRuns_246 rfl rfl ?_
          refine zm_getR fg_Model_72 d_Model_ofRuns_247 zs_Model rfl ?_
          refine zq_iload d_Model_ofRuns_250 rfl ?_
          obtain ⟨hb, hJ⟩ := hJ
          refine zm_ald d_Model_ofRuns_252 (rfl : zm_sh[54]? = some (.inl (0, 8, .inl (fun _ => 0)))) hb ?_
          refine zq_if_ne (tgt := 270) d_Model_ofRuns_253 (by decide) (fun c => ?_) (fun c => ?_)
          · have hJ := hJ.1 c
            refine zr_less (L' := [some (.ref 33), none, some (.long x2), none, none, some (.int x5), some (.int x6), some (.int y38)]) ⟨rfl, ⟨rfl, ⟨rfl, ⟨rfl, ⟨rfl, trivial⟩⟩⟩⟩⟩ ?_
            exact s_Model_ofRuns_L270  ih  hJ
          · have hJ := hJ.2 c
            refine zq_iload d_Model_ofRuns_256 rfl ?_
            refine zr_csI (as := [.int y38]) (st := []) d_Model_ofRuns_258 cc_Model_147 cs_Model_rank (s_Model_rank  hJ) rfl ⟨Nat.le_of_ble_eq_true rfl, Nat.le_of_ble_eq_true rfl⟩ (Nat.le_of_ble_eq_true rfl) ⟨Nat.le_refl _, Nat.le_refl _⟩ rfl (fun r42 m41 hJ => ?_)
            refine zq_bipush (v := 7) d_Model_ofRuns_261 zk_b7 ?_
            refine zq_icmp_ne (tgt := 270) d_Model_ofRuns_263 (by decide) (fun c => ?_) (fun c => ?_)
            · have hJ := hJ.1 c
              refine zr_less (L' := [some (.ref 33), none, some (.long x2), none, none, some (.int x5), some (.int x6), some (.int y38)]) ⟨rfl, ⟨rfl, ⟨rfl, ⟨rfl, ⟨rfl, trivial⟩⟩⟩⟩⟩ ?_
              exact s_Model_ofRuns_L270  ih  hJ
            · have hJ := hJ.2 c
              refine zr_less (L' := [some (.ref 33), none, some (.long x2), none, none, some (.int x5), some (.int x6), some (.int y38)]) ⟨rfl, ⟨rfl, ⟨rfl, ⟨rfl, ⟨rfl, trivial⟩⟩⟩⟩⟩ ?_
              exact s_Model_ofRuns_L266  ih  hJ
set_option maxHeartbeats 400000 in
theorem s_Model_ofRuns_L213 {g : zk_T} {K : Int64 → zm → Prop} {x2 : Int64} {x4 : Int32} {t0 : Int32} {m : zm} (hJ : j_Model_ofRuns_L213   K x2 x4 t0 m) : zq_V (zk_g g) ("RiichiTableModel", prog_9_method_38_code, 8, (some .long), false, zq_rm 2 0 0) 0 0 213 [some (.ref 33), none, some (.long x2), none, some (.int x4), none, none, none] [.int t0] (zm_hp m) (zm_QL K) := by
  unfold j_Model_ofRuns_L213 at hJ
  refine zr_istore (L' := [some (.ref 33), none, some (.long x2), none, some (.int x4), some (.int t0), none, none]) d_Model_ofRuns_213 (Nat.le_of_ble_eq_true rfl) rfl ?_
  refine zq_iconst (v := 0) d_Model_ofRuns_215 zk_i0 ?_
  refine zr_istore (L' := [some (.ref 33), none, some (.long x2), none, some (.int x4), some (.int t0), some (.int 0), none]) d_Model_ofRuns_216 (Nat.le_of_ble_eq_true rfl) rfl ?_
  refine zr_less (L' := [some (.ref 33), none, some (.long x2), none, some (.int x4), some (.int t0), some (.int 0), none]) ⟨rfl, ⟨rfl, ⟨rfl, ⟨rfl, ⟨rfl, trivial⟩⟩⟩⟩⟩ ?_
  obtain ⟨n218, hJ⟩ := hJ
  exact s_Model_ofRuns_L218   n218  hJ
set_option maxHeartbeats 400000 in
theorem s_Model_ofRuns_L131 {g : zk_T} {K : Int64 → zm → Prop} : ∀ (n : Nat) {x2 : Int64} {x4 : Int32} {m : zm}, j_Model_ofRuns_L131   K n x2 x4 m → zq_V (zk_g g) ("RiichiTableModel", prog_9_method_38_code, 8, (some .long), false, zq_rm 2 0 0) 0 0 131 [some (.ref 33), none, some (.long x2), none, some (.int x4), none, none, none] [] (zm_hp m) (zm_QL K) := by
  intro n
  induction n with
  | zero =>
    intro x2 x4 m hJ
    exact False.elim hJ
  | succ n ih =>
    intro x2 x4 m hJ
    rw [j_Model_ofRuns_L131] at hJ
    refine zq_iload d_Model_ofRuns_131 rfl ?_
    refine zq_bipush (v := 27) d_Model_ofRuns_133 zk_b27 ?_
    refine zq_icmp_ge (tgt := 190) d_Model_ofRuns_135 (by decide) (fun c => ?_) (fun c => ?_)
    · have hJ := hJ.1 c
      refine zq_aload_n d_Model_ofRuns_190 rfl rfl ?_
      refine zm_getI fg_Model_137 d_Model_ofRuns_191 zs_Model rfl ?_
      refine zr_csI (as := [.int (m.1 33 44)]) (st := []) d_Model_ofRuns_194 cc_Model_133 cs_Model_outer (s_Model_outer  hJ) rfl ⟨Nat.le_of_ble_eq_true rfl, Nat.le_of_ble_eq_true rfl⟩ (Nat.le_of_ble_eq_true rfl) ⟨Nat.le_refl _, Nat.le_refl _⟩ rfl (fun r25 m24 hJ => ?_)
      refine zr_istore (L' := [some (.ref 33), none, some (.long x2), none, some (.int r25), none, none, none]) d_Model_ofRuns_197 (Nat.le_of_ble_eq_true rfl) rfl ?_
      refine zq_aload_n d_Model_ofRuns_199 rfl rfl ?_
      refine zm_getI fg_Model_137 d_Model_ofRuns_200 zs_Model rfl ?_
      refine zq_bipush (v := 27) d_Model_ofRuns_203 zk_b27 ?_
      refine zq_icmp_lt (tgt := 212) d_Model_ofRuns_205 (by decide) (fun c => ?_) (fun c => ?_)
      · have hJ := hJ.1 c
        refine zq_iconst (v := 0) d_Model_ofRuns_212 zk_i0 ?_
        refine zr_less (L' := [some (.ref 33), none, some (.long x2), none, some (.int r25), none, none, none]) ⟨rfl, ⟨rfl, ⟨rfl, trivial⟩⟩⟩ ?_
        exact s_Model_ofRuns_L213    hJ
      · have hJ := hJ.2 c
        refine zq_iconst (v := 1) d_Model_ofRuns_208 zk_i1 ?_
        refine zq_goto (tgt := 213) d_Model_ofRuns_209 (by decide) ?_
        refine zr_less (L' := [some (.ref 33), none, some (.long x2), none, some (.int r25), none, none, none]) ⟨rfl, ⟨rfl, ⟨rfl, trivial⟩⟩⟩ ?_
        exact s_Model_ofRuns_L213    hJ
    · have hJ := hJ.2 c
      refine zq_lload_n d_Model_ofRuns_138 rfl rfl ?_
      refine zq_aload_n d_Model_ofRuns_139 rfl rfl ?_
      refine zq_aload_n d_Model_ofRuns_140 rfl rfl ?_
      refine zq_iload d_Model_ofRuns_141 rfl ?_
      refine zr_cvI (q := 33) (as := [.int x4]) (st := [.ref 33, .long x2]) d_Model_ofRuns_143 cc_Model_231 cv_Model_hasRun zs_Model (s_Model_hasRun  hJ) rfl ⟨Nat.le_of_ble_eq_true rfl, Nat.le_of_ble_eq_true rfl⟩ (Nat.le_of_ble_eq_true rfl) ⟨Nat.le_refl _, Nat.le_refl _⟩ rfl (fun r27 m26 hJ => ?_)
      refine zq_if_eq (tgt := 176) d_Model_ofRuns_146 (by decide) (fun c => ?_) (fun c => ?_)
      · have hJ := hJ.1 c
        refine zr_less (L' := [some (.ref 33), none, none, none, some (.int x4), none, none, none]) ⟨rfl, ⟨rfl, trivial⟩⟩ ?_
        exact s_Model_ofRuns_L176  ih  hJ
      · have hJ := hJ.2 c
        refine zq_aload_n d_Model_ofRuns_149 rfl rfl ?_
        refine zq_iload d_Model_ofRuns_150 rfl ?_
        refine zq_iconst (v := 3) d_Model_ofRuns_152 zk_i3 ?_
        refine zq_iadd d_Model_ofRuns_153 ?_
        refine zr_cvI (q := 33) (as := [.int (x4 + 3)]) (st := [.ref 33, .long x2]) d_Model_ofRuns_154 cc_Model_231 cv_Model_hasRun zs_Model (s_Model_hasRun  hJ) rfl ⟨Nat.le_of_ble_eq_true rfl, Nat.le_of_ble_eq_true rfl⟩ (Nat.le_of_ble_eq_true rfl) ⟨Nat.le_refl _, Nat.le_refl _⟩ rfl (fun r29 m28 hJ => ?_)
        refine zq_if_eq (tgt := 176) d_Model_ofRuns_157 (by decide) (fun c => ?_) (fun c => ?_)
        · have hJ := hJ.1 c
          refine zr_less (L' := [some (.ref 33), none, none, none, some (.int x4), none, none, none]) ⟨rfl, ⟨rfl, trivial⟩⟩ ?_
          exact s_Model_ofRuns_L176  ih  hJ
        · have hJ := hJ.2 c
          refine zq_aload_n d_Model_ofRuns_160 rfl rfl ?_
          refine zq_iload d_Model_ofRuns_161 rfl ?_
          refine zq_bipush (v := 6) d_Model_ofRuns_163 zk_b6 ?_
          refine zq_iadd d_Model_ofRuns_165 ?_
          refine zr_cvI (q := 33) (as := [.int (x4 + 6)]) (st := [.ref 33, .long x2]) d_Model_ofRuns_166 cc_Model_231 cv_Model_hasRun zs_Model (s_Model_hasRun  hJ) rfl ⟨Nat.le_of_ble_eq_true rfl, Nat.le_of_ble_eq_true rfl⟩ (Nat.le_of_ble_eq_true rfl) ⟨Nat.le_refl _, Nat.le_refl _⟩ rfl (fun r31 m30 hJ => ?_)
          refine zq_if_eq (tgt := 176) d_Model_ofRuns_169 (by decide) (fun c => ?_) (fun c => ?_)
          · have hJ := hJ.1 c
            refine zr_less (L' := [some (.ref 33), none, none, none, some (.int x4), none, none, none]) ⟨rfl, ⟨rfl, trivial⟩⟩ ?_
            exact s_Model_ofRuns_L176  ih  hJ
          · have hJ := hJ.2 c
            refine zq_iconst (v := 1) d_Model_ofRuns_172 zk_i1 ?_
            refine zq_goto (tgt := 177) d_Model_ofRuns_173 (by decide) ?_
            refine zr_less (L' := [some (.ref 33), none, none, none, some (.int x4), none, none, none]) ⟨rfl, ⟨rfl, trivial⟩⟩ ?_
            exact s_Model_ofRuns_L177  ih  hJ
set_option maxHeartbeats 400000 in
theorem s_Model_ofRuns_L68 {g : zk_T} {K : Int64 → zm → Prop} : ∀ (n : Nat) {x2 : Int64} {x4 : Int32} {m : zm}, j_Model_ofRuns_L68   K n x2 x4 m → zq_V (zk_g g) ("RiichiTableModel", prog_9_method_38_code, 8, (some .long), false, zq_rm 2 0 0) 0 0 68 [some (.ref 33), none, some (.long x2), none, some (.int x4), none, none, none] [] (zm_hp m) (zm_QL K) := by
  intro n
  induction n with
  | zero =>
    intro x2 x4 m hJ
    exact False.elim hJ
  | succ n ih =>
    intro x2 x4 m hJ
    rw [j_Model_ofRuns_L68] at hJ
    refine zq_iload d_Model_ofRuns_68 rfl ?_
    refine zq_bipush (v := 7) d_Model_ofRuns_70 zk_b7 ?_
    refine zq_icmp_ge (tgt := 128) d_Model_ofRuns_72 (by decide) (fun c => ?_) (fun c => ?_)
    · have hJ := hJ.1 c
      refine zq_iconst (v := 0) d_Model_ofRuns_128 zk_i0 ?_
      refine zr_istore (L' := [some (.ref 33), none, some (.long x2), none, some (.int 0), none, none, none]) d_Model_ofRuns_129 (Nat.le_of_ble_eq_true rfl) rfl ?_
      refine zr_less (L' := [some (.ref 33), none, some (.long x2), none, some (.int 0), none, none, none]) ⟨rfl, ⟨rfl, ⟨rfl, trivial⟩⟩⟩ ?_
      obtain ⟨n131, hJ⟩ := hJ
      exact s_Model_ofRuns_L131   n131  hJ
    · have hJ := hJ.2 c
      refine zq_lload_n d_Model_ofRuns_75 rfl rfl ?_
      refine zq_aload_n d_Model_ofRuns_76 rfl rfl ?_
      refine zq_aload_n d_Model_ofRuns_77 rfl rfl ?_
      refine zq_iload d_Model_ofRuns_78 rfl ?_
      refine zr_cvI (q := 33) (as := [.int x4]) (st := [.ref 33, .long x2]) d_Model_ofRuns_80 cc_Model_231 cv_Model_hasRun zs_Model (s_Model_hasRun  hJ) rfl ⟨Nat.le_of_ble_eq_true rfl, Nat.le_of_ble_eq_true rfl⟩ (Nat.le_of_ble_eq_true rfl) ⟨Nat.le_refl _, Nat.le_refl _⟩ rfl (fun r15 m14 hJ => ?_)
      refine zq_if_eq (tgt := 114) d_Model_ofRuns_83 (by decide) (fun c => ?_) (fun c => ?_)
      · have hJ := hJ.1 c
        refine zr_less (L' := [some (.ref 33), none, none, none, some (.int x4), none, none, none]) ⟨rfl, ⟨rfl, trivial⟩⟩ ?_
        exact s_Model_ofRuns_L114  ih  hJ
      · have hJ := hJ.2 c
        refine zq_aload_n d_Model_ofRuns_86 rfl rfl ?_
        refine zq_bipush (v := 9) d_Model_ofRuns_87 zk_b9 ?_
        refine zq_iload d_Model_ofRuns_89 rfl ?_
        refine zq_iadd d_Model_ofRuns_91 ?_
        refine zr_cvI (q := 33) (as := [.int (9 + x4)]) (st := [.ref 33, .long x2]) d_Model_ofRuns_92 cc_Model_231 cv_Model_hasRun zs_Model (s_Model_hasRun  hJ) rfl ⟨Nat.le_of_ble_eq_true rfl, Nat.le_of_ble_eq_true rfl⟩ (Nat.le_of_ble_eq_true rfl) ⟨Nat.le_refl _, Nat.le_refl _⟩ rfl (fun r17 m16 hJ => ?_)
        refine zq_if_eq (tgt := 114) d_Model_ofRuns_95 (by decide) (fun c => ?_) (fun c => ?_)
        · have hJ := hJ.1 c
          refine zr_less (L' := [some (.ref 33), none, none, none, some (.int x4), none, none, none]) ⟨rfl, ⟨rfl, trivial⟩⟩ ?_
          exact s_Model_ofRuns_L114  ih  hJ
        · have hJ := hJ.2 c
          refine zq_aload_n d_Model_ofRuns_98 rfl rfl ?_
          refine zq_bipush (v := 18) d_Model_ofRuns_99 zk_b18 ?_
          refine zq_iload d_Model_ofRuns_101 rfl ?_
          refine zq_iadd d_Model_ofRuns_103 ?_
          refine zr_cvI (q := 33) (as := [.int (18 + x4)]) (st := [.ref 33, .long x2]) d_Model_ofRuns_104 cc_Model_231 cv_Model_hasRun zs_Model (s_Model_hasRun  hJ) rfl ⟨Nat.le_of_ble_eq_true rfl, Nat.le_of_ble_eq_true rfl⟩ (Nat.le_of_ble_eq_true rfl) ⟨Nat.le_refl _, Nat.le_refl _⟩ rfl (fun r19 m18 hJ => ?_)
          refine zq_if_eq (tgt := 114) d_Model_ofRuns_107 (by decide) (fun c => ?_) (fun c => ?_)
          · have hJ := hJ.1 c
            refine zr_less (L' := [some (.ref 33), none, none, none, some (.int x4), none, none, none]) ⟨rfl, ⟨rfl, trivial⟩⟩ ?_
            exact s_Model_ofRuns_L114  ih  hJ
          · have hJ := hJ.2 c
            refine zq_iconst (v := 1) d_Model_ofRuns_110 zk_i1 ?_
            refine zq_goto (tgt := 115) d_Model_ofRuns_111 (by decide) ?_
            refine zr_less (L' := [some (.ref 33), none, none, none, some (.int x4), none, none, none]) ⟨rfl, ⟨rfl, trivial⟩⟩ ?_
            exact s_Model_ofRuns_L115  ih  hJ
set_option maxHeartbeats 400000 in
theorem s_Model_ofRuns_L58 {g : zk_T} {K : Int64 → zm → Prop} {t0 : Int32} {t2 : Int64} {m : zm} (hJ : j_Model_ofRuns_L58   K t0 t2 m) : zq_V (zk_g g) ("RiichiTableModel", prog_9_method_38_code, 8, (some .long), false, zq_rm 2 0 0) 0 0 58 [some (.ref 33), none, none, none, none, none, none, none] [.int t0, .ref 33, .long t2] (zm_hp m) (zm_QL K) := by
  unfold j_Model_ofRuns_L58 at hJ
  refine zq_bipush (v := 27) d_Model_ofRuns_58 zk_b27 ?_
  refine zr_cvL (q := 33) (as := [.int t0, .int 27]) (st := [.long t2]) d_Model_ofRuns_60 cc_Model_187 cv_Model_bit zs_Model (s_Model_bit  hJ) rfl ⟨Nat.le_of_ble_eq_true rfl, Nat.le_of_ble_eq_true rfl⟩ (Nat.le_of_ble_eq_true rfl) ⟨Nat.le_refl _, Nat.le_refl _⟩ rfl (fun r12 m11 hJ => ?_)
  refine zq_lor d_Model_ofRuns_63 ?_
  refine zr_topl (fun y13 hy13 => ?_)
  have hJ := hJ y13 hy13
  refine zr_lstore_n (L' := [some (.ref 33), none, some (.long y13), none, none, none, none, none]) d_Model_ofRuns_64 rfl (Nat.le_of_ble_eq_true rfl) rfl ?_
  refine zq_iconst (v := 0) d_Model_ofRuns_65 zk_i0 ?_
  refine zr_istore (L' := [some (.ref 33), none, some (.long y13), none, some (.int 0), none, none, none]) d_Model_ofRuns_66 (Nat.le_of_ble_eq_true rfl) rfl ?_
  refine zr_less (L' := [some (.ref 33), none, some (.long y13), none, some (.int 0), none, none, none]) ⟨rfl, ⟨rfl, ⟨rfl, trivial⟩⟩⟩ ?_
  obtain ⟨n68, hJ⟩ := hJ
  exact s_Model_ofRuns_L68   n68  hJ
set_option maxHeartbeats 400000 in
theorem s_Model_ofRuns_L41 {g : zk_T} {K : Int64 → zm → Prop} {x1 : Int32} {t0 : Int32} {t2 : Int64} {m : zm} (hJ : j_Model_ofRuns_L41   K x1 t0 t2 m) : zq_V (zk_g g) ("RiichiTableModel", prog_9_method_38_code, 8, (some .long), false, zq_rm 2 0 0) 0 0 41 [some (.ref 33), some (.int x1), none, none, none, none, none, none] [.int t0, .ref 33, .long t2] (zm_hp m) (zm_QL K) := by
  unfold j_Model_ofRuns_L41 at hJ
  refine zq_bipush (v := 9) d_Model_ofRuns_41 zk_b9 ?_
  refine zr_cvL (q := 33) (as := [.int t0, .int 9]) (st := [.long t2]) d_Model_ofRuns_43 cc_Model_187 cv_Model_bit zs_Model (s_Model_bit  hJ) rfl ⟨Nat.le_of_ble_eq_true rfl, Nat.le_of_ble_eq_true rfl⟩ (Nat.le_of_ble_eq_true rfl) ⟨Nat.le_refl _, Nat.le_refl _⟩ rfl (fun r10 m9 hJ => ?_)
  refine zq_lor d_Model_ofRuns_46 ?_
  refine zq_aload_n d_Model_ofRuns_47 rfl rfl ?_
  refine zq_iload_n d_Model_ofRuns_48 rfl rfl ?_
  refine zq_iconst (v := 2) d_Model_ofRuns_49 zk_i2 ?_
  refine zq_icmp_ne (tgt := 57) d_Model_ofRuns_50 (by decide) (fun c => ?_) (fun c => ?_)
  · have hJ := hJ.1 c
    refine zq_iconst (v := 0) d_Model_ofRuns_57 zk_i0 ?_
    refine zr_less (L' := [some (.ref 33), none, none, none, none, none, none, none]) ⟨rfl, trivial⟩ ?_
    exact s_Model_ofRuns_L58    hJ
  · have hJ := hJ.2 c
    refine zq_iconst (v := 1) d_Model_ofRuns_53 zk_i1 ?_
    refine zq_goto (tgt := 58) d_Model_ofRuns_54 (by decide) ?_
    refine zr_less (L' := [some (.ref 33), none, none, none, none, none, none, none]) ⟨rfl, trivial⟩ ?_
    exact s_Model_ofRuns_L58    hJ
set_option maxHeartbeats 400000 in
theorem s_Model_ofRuns_L19 {g : zk_T} {K : Int64 → zm → Prop} {t0 : Int32} {m : zm} (hJ : j_Model_ofRuns_L19   K t0 m) : zq_V (zk_g g) ("RiichiTableModel", prog_9_method_38_code, 8, (some .long), false, zq_rm 2 0 0) 0 0 19 [some (.ref 33), none, none, none, none, none, none, none] [.int t0] (zm_hp m) (zm_QL K) := by
  unfold j_Model_ofRuns_L19 at hJ
  refine zr_istore_n (L' := [some (.ref 33), some (.int t0), none, none, none, none, none, none]) d_Model_ofRuns_19 rfl (Nat.le_of_ble_eq_true rfl) rfl ?_
  refine zq_aload_n d_Model_ofRuns_20 rfl rfl ?_
  refine zq_aload_n d_Model_ofRuns_21 rfl rfl ?_
  refine zr_cvI (q := 33) (as := []) (st := [.ref 33]) d_Model_ofRuns_22 cc_Model_228 cv_Model_flat zs_Model (s_Model_flat  hJ) rfl ⟨Nat.le_of_ble_eq_true rfl, Nat.le_of_ble_eq_true rfl⟩ (Nat.le_of_ble_eq_true rfl) ⟨Nat.le_refl _, Nat.le_refl _⟩ rfl (fun r6 m5 hJ => ?_)
  refine zq_bipush (v := 8) d_Model_ofRuns_25 zk_b8 ?_
  refine zr_cvL (q := 33) (as := [.int r6, .int 8]) (st := []) d_Model_ofRuns_27 cc_Model_187 cv_Model_bit zs_Model (s_Model_bit  hJ) rfl ⟨Nat.le_of_ble_eq_true rfl, Nat.le_of_ble_eq_true rfl⟩ (Nat.le_of_ble_eq_true rfl) ⟨Nat.le_refl _, Nat.le_refl _⟩ rfl (fun r8 m7 hJ => ?_)
  refine zq_aload_n d_Model_ofRuns_30 rfl rfl ?_
  refine zq_iload_n d_Model_ofRuns_31 rfl rfl ?_
  refine zq_iconst (v := 1) d_Model_ofRuns_32 zk_i1 ?_
  refine zq_icmp_ne (tgt := 40) d_Model_ofRuns_33 (by decide) (fun c => ?_) (fun c => ?_)
  · have hJ := hJ.1 c
    refine zq_iconst (v := 0) d_Model_ofRuns_40 zk_i0 ?_
    refine zr_less (L' := [some (.ref 33), some (.int t0), none, none, none, none, none, none]) ⟨rfl, ⟨rfl, trivial⟩⟩ ?_
    exact s_Model_ofRuns_L41    hJ
  · have hJ := hJ.2 c
    refine zq_iconst (v := 1) d_Model_ofRuns_36 zk_i1 ?_
    refine zq_goto (tgt := 41) d_Model_ofRuns_37 (by decide) ?_
    refine zr_less (L' := [some (.ref 33), some (.int t0), none, none, none, none, none, none]) ⟨rfl, ⟨rfl, trivial⟩⟩ ?_
    exact s_Model_ofRuns_L41    hJ
set_option maxHeartbeats 400000 in
theorem s_Model_ofRuns {g : zk_T} {K : Int64 → zm → Prop} {m : zm} (hJ : j_Model_ofRuns  m K) : zq_Mt (zk_g g) y_Model_ofRuns 2 0 0 [.ref 33] (zm_hp m) (zm_QL K) := by
  unfold j_Model_ofRuns at hJ
  refine zq_meth (ini := false) rfl (fun h => by cases h) (Nat.le_of_ble_eq_true rfl) ?_
  refine zr_L (F := ("RiichiTableModel", prog_9_method_38_code, 8, (some .long), false, zq_rm 2 0 0)) (L' := [some (.ref 33), none, none, none, none, none, none, none]) rfl ?_
  refine zq_aload_n d_Model_ofRuns_0 rfl rfl ?_
  refine zq_aload_n d_Model_ofRuns_1 rfl rfl ?_
  refine zm_getI fg_Model_184 d_Model_ofRuns_2 zs_Model rfl ?_
  refine zr_cvI (q := 33) (as := [.int (m.1 33 32)]) (st := []) d_Model_ofRuns_5 cc_Model_194 cv_Model_isClosed zs_Model (s_Model_isClosed  hJ) rfl ⟨Nat.le_of_ble_eq_true rfl, Nat.le_of_ble_eq_true rfl⟩ (Nat.le_of_ble_eq_true rfl) ⟨Nat.le_refl _, Nat.le_refl _⟩ rfl (fun r2 m1 hJ => ?_)
  refine zq_if_eq (tgt := 18) d_Model_ofRuns_8 (by decide) (fun c => ?_) (fun c => ?_)
  · have hJ := hJ.1 c
    refine zq_iconst (v := 0) d_Model_ofRuns_18 zk_i0 ?_
    refine zr_less (L' := [some (.ref 33), none, none, none, none, none, none, none]) ⟨rfl, trivial⟩ ?_
    exact s_Model_ofRuns_L19    hJ
  · have hJ := hJ.2 c
    refine zq_aload_n d_Model_ofRuns_11 rfl rfl ?_
    refine zr_cvI (q := 33) (as := []) (st := []) d_Model_ofRuns_12 cc_Model_225 cv_Model_twins zs_Model (s_Model_twins  hJ) rfl ⟨Nat.le_of_ble_eq_true rfl, Nat.le_of_ble_eq_true rfl⟩ (Nat.le_of_ble_eq_true rfl) ⟨Nat.le_refl _, Nat.le_refl _⟩ rfl (fun r4 m3 hJ => ?_)
    refine zq_goto (tgt := 19) d_Model_ofRuns_15 (by decide) ?_
    refine zr_less (L' := [some (.ref 33), none, none, none, none, none, none, none]) ⟨rfl, trivial⟩ ?_
    exact s_Model_ofRuns_L19    hJ
