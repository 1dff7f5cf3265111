set_option maxHeartbeats 400000 in
theorem s_Model_ask_L203 {g : zk_T} {a1 : Int32} {a2 : Int32} {R15 : Int32 → Int32 → zm → Prop} {K : zm → Prop} (hR15 : ∀ {x3 : Int32} {x4 : Int32} {m : zm}, R15 x3 x4 m → zq_V (zk_g g) ("RiichiTableModel", prog_9_method_51_code, 6, none, false, zq_rm 7 0 0) 0 0 15 [some (.ref 33), some (.int a1), some (.int a2), some (.int x3), some (.int x4), none] [] (zm_hp m) (zm_QV K)) {x3 : Int32} {x4 : Int32} {m : zm} (hJ : j_Model_ask_L203 a1 a2 R15 K x3 x4 m) : zq_V (zk_g g) ("RiichiTableModel", prog_9_method_51_code, 6, none, false, zq_rm 7 0 0) 0 0 203 [some (.ref 33), some (.int a1), some (.int a2), some (.int x3), some (.int x4), none] [] (zm_hp m) (zm_QV K) := by
  unfold j_Model_ask_L203 at hJ
  refine zr_iinc (d' := 1) d_Model_ask_203 zk_i1 rfl (Nat.le_of_ble_eq_true rfl) (fun y19 hy19 => ?_)
  have hJ := hJ y19 hy19
  refine zr_L (L' := [some (.ref 33), some (.int a1), some (.int a2), some (.int x3), some (.int y19), none]) rfl ?_
  refine zq_goto (tgt := 15) d_Model_ask_206 (by decide) ?_
  refine zr_less (L' := [some (.ref 33), some (.int a1), some (.int a2), some (.int x3), some (.int y19), none]) ⟨rfl, ⟨rfl, ⟨rfl, ⟨rfl, ⟨rfl, trivial⟩⟩⟩⟩⟩ ?_
  exact hR15  hJ
set_option maxHeartbeats 400000 in
theorem s_Model_ask_L202 {g : zk_T} {a1 : Int32} {a2 : Int32} {R15 : Int32 → Int32 → zm → Prop} {K : zm → Prop} (hR15 : ∀ {x3 : Int32} {x4 : Int32} {m : zm}, R15 x3 x4 m → zq_V (zk_g g) ("RiichiTableModel", prog_9_method_51_code, 6, none, false, zq_rm 7 0 0) 0 0 15 [some (.ref 33), some (.int a1), some (.int a2), some (.int x3), some (.int x4), none] [] (zm_hp m) (zm_QV K)) {x4 : Int32} {t0 : Int32} {m : zm} (hJ : j_Model_ask_L202 a1 a2 R15 K x4 t0 m) : zq_V (zk_g g) ("RiichiTableModel", prog_9_method_51_code, 6, none, false, zq_rm 7 0 0) 0 0 202 [some (.ref 33), some (.int a1), some (.int a2), none, some (.int x4), none] [.int t0] (zm_hp m) (zm_QV K) := by
  unfold j_Model_ask_L202 at hJ
  refine zr_istore_n (L' := [some (.ref 33), some (.int a1), some (.int a2), some (.int t0), some (.int x4), none]) d_Model_ask_202 rfl (Nat.le_of_ble_eq_true rfl) rfl ?_
  refine zr_less (L' := [some (.ref 33), some (.int a1), some (.int a2), some (.int t0), some (.int x4), none]) ⟨rfl, ⟨rfl, ⟨rfl, ⟨rfl, ⟨rfl, trivial⟩⟩⟩⟩⟩ ?_
  exact s_Model_ask_L203  hR15  hJ
set_option maxHeartbeats 400000 in
theorem s_Model_ask_L197 {g : zk_T} {a1 : Int32} {a2 : Int32} {R15 : Int32 → Int32 → zm → Prop} {K : zm → Prop} (hR15 : ∀ {x3 : Int32} {x4 : Int32} {m : zm}, R15 x3 x4 m → zq_V (zk_g g) ("RiichiTableModel", prog_9_method_51_code, 6, none, false, zq_rm 7 0 0) 0 0 15 [some (.ref 33), some (.int a1), some (.int a2), some (.int x3), some (.int x4), none] [] (zm_hp m) (zm_QV K)) {x4 : Int32} {m : zm} (hJ : j_Model_ask_L197 a1 a2 R15 K x4 m) : zq_V (zk_g g) ("RiichiTableModel", prog_9_method_51_code, 6, none, false, zq_rm 7 0 0) 0 0 197 [some (.ref 33), some (.int a1), some (.int a2), none, some (.int x4), none] [] (zm_hp m) (zm_QV K) := by
  unfold j_Model_ask_L197 at hJ
  refine zq_iconst (v := 1) d_Model_ask_197 zk_i1 ?_
  refine zq_goto (tgt := 202) d_Model_ask_198 (by decide) ?_
  refine zr_less (L' := [some (.ref 33), some (.int a1), some (.int a2), none, some (.int x4), none]) ⟨rfl, ⟨rfl, ⟨rfl, ⟨rfl, trivial⟩⟩⟩⟩ ?_
  exact s_Model_ask_L202  hR15  hJ
set_option maxHeartbeats 400000 in
theorem s_Model_ask_L183 {g : zk_T} {a1 : Int32} {a2 : Int32} {R15 : Int32 → Int32 → zm → Prop} {K : zm → Prop} (hR15 : ∀ {x3 : Int32} {x4 : Int32} {m : zm}, R15 x3 x4 m → zq_V (zk_g g) ("RiichiTableModel", prog_9_method_51_code, 6, none, false, zq_rm 7 0 0) 0 0 15 [some (.ref 33), some (.int a1), some (.int a2), some (.int x3), some (.int x4), none] [] (zm_hp m) (zm_QV K)) {x3 : Int32} {x4 : Int32} {m : zm} (hJ : j_Model_ask_L183 a1 a2 R15 K x3 x4 m) : zq_V (zk_g g) ("RiichiTableModel", prog_9_method_51_code, 6, none, false, zq_rm 7 0 0) 0 0 183 [some (.ref 33), some (.int a1), some (.int a2), some (.int x3), some (.int x4), none] [] (zm_hp m) (zm_QV K) := by
  unfold j_Model_ask_L183 at hJ
  refine zq_iload_n d_Model_ask_183 rfl rfl ?_
  refine zq_if_ne (tgt := 197) d_Model_ask_184 (by decide) (fun c => ?_) (fun c => ?_)
  · have hJ := hJ.1 c
    refine zr_less (L' := [some (.ref 33), some (.int a1), some (.int a2), none, some (.int x4), none]) ⟨rfl, ⟨rfl, ⟨rfl, ⟨rfl, trivial⟩⟩⟩⟩ ?_
    exact s_Model_ask_L197  hR15  hJ
  · have hJ := hJ.2 c
    refine zq_aload_n d_Model_ask_187 rfl rfl ?_
    refine zm_getR fg_Model_44 d_Model_ask_188 zs_Model rfl ?_
    refine zq_iload d_Model_ask_191 rfl ?_
    obtain ⟨hb, hJ⟩ := hJ
    refine zm_ald d_Model_ask_193 (rfl : zm_sh[45]? = some (.inl (0, 4, .inl (fun _ => 0)))) hb ?_
    refine zq_if_le (tgt := 201) d_Model_ask_194 (by decide) (fun c => ?_) (fun c => ?_)
    · have hJ := hJ.1 c
      refine zq_iconst (v := 0) d_Model_ask_201 zk_i0 ?_
      refine zr_less (L' := [some (.ref 33), some (.int a1), some (.int a2), none, some (.int x4), none]) ⟨rfl, ⟨rfl, ⟨rfl, ⟨rfl, trivial⟩⟩⟩⟩ ?_
      exact s_Model_ask_L202  hR15  hJ
    · have hJ := hJ.2 c
      refine zr_less (L' := [some (.ref 33), some (.int a1), some (.int a2), none, some (.int x4), none]) ⟨rfl, ⟨rfl, ⟨rfl, ⟨rfl, trivial⟩⟩⟩⟩ ?_
      exact s_Model_ask_L197  hR15  hJ
set_option maxHeartbeats 400000 in
theorem s_Model_ask_L180 {g : zk_T} {a1 : Int32} {a2 : Int32} {R15 : Int32 → Int32 → zm → Prop} {K : zm → Prop} (hR15 : ∀ {x3 : Int32} {x4 : Int32} {m : zm}, R15 x3 x4 m → zq_V (zk_g g) ("RiichiTableModel", prog_9_method_51_code, 6, none, false, zq_rm 7 0 0) 0 0 15 [some (.ref 33), some (.int a1), some (.int a2), some (.int x3), some (.int x4), none] [] (zm_hp m) (zm_QV K)) {x3 : Int32} {x4 : Int32} {t0 : Int32} {t1 : Int32} {t2 : Int32} {t3 : Int32} {m : zm} (hJ : j_Model_ask_L180 a1 a2 R15 K x3 x4 t0 t1 t2 t3 m) : zq_V (zk_g g) ("RiichiTableModel", prog_9_method_51_code, 6, none, false, zq_rm 7 0 0) 0 0 180 [some (.ref 33), some (.int a1), some (.int a2), some (.int x3), some (.int x4), none] [.int t0, .int t1, .int t2, .int t3, .ref 45] (zm_hp m) (zm_QV K) := by
  unfold j_Model_ask_L180 at hJ
  refine zq_iadd d_Model_ask_180 ?_
  refine zq_iadd d_Model_ask_181 ?_
  obtain ⟨hb, hJ⟩ := hJ
  refine zr_ast d_Model_ask_182 (rfl : zm_sh[45]? = some (.inl (0, 4, .inl (fun _ => 0)))) hb (fun m18 hm18 => ?_)
  have hJ := hJ m18 hm18
  refine zr_less (L' := [some (.ref 33), some (.int a1), some (.int a2), some (.int x3), some (.int x4), none]) ⟨rfl, ⟨rfl, ⟨rfl, ⟨rfl, ⟨rfl, trivial⟩⟩⟩⟩⟩ ?_
  exact s_Model_ask_L183  hR15  hJ
set_option maxHeartbeats 400000 in
theorem s_Model_ask_L155 {g : zk_T} {a1 : Int32} {a2 : Int32} {R15 : Int32 → Int32 → zm → Prop} {K : zm → Prop} (hR15 : ∀ {x3 : Int32} {x4 : Int32} {m : zm}, R15 x3 x4 m → zq_V (zk_g g) ("RiichiTableModel", prog_9_method_51_code, 6, none, false, zq_rm 7 0 0) 0 0 15 [some (.ref 33), some (.int a1), some (.int a2), some (.int x3), some (.int x4), none] [] (zm_hp m) (zm_QV K)) {x3 : Int32} {x4 : Int32} {t0 : Int32} {t1 : Int32} {t2 : Int32} {t3 : Int32} {m : zm} (hJ : j_Model_ask_L155 a1 a2 R15 K x3 x4 t0 t1 t2 t3 m) : zq_V (zk_g g) ("RiichiTableModel", prog_9_method_51_code, 6, none, false, zq_rm 7 0 0) 0 0 155 [some (.ref 33), some (.int a1), some (.int a2), some (.int x3), some (.int x4), none] [.int t0, .int t1, .int t2, .int t3, .ref 45] (zm_hp m) (zm_QV K) := by
  unfold j_Model_ask_L155 at hJ
  refine zq_iadd d_Model_ask_155 ?_
  refine zq_iload d_Model_ask_156 rfl ?_
  refine zq_aload_n d_Model_ask_158 rfl rfl ?_
  refine zm_getI fg_Model_113 d_Model_ask_159 zs_Model rfl ?_
  refine zq_iconst (v := 1) d_Model_ask_162 zk_i1 ?_
  refine zq_iadd d_Model_ask_163 ?_
  refine zq_iconst (v := 4) d_Model_ask_164 zk_i4 ?_
  refine zq_irem d_Model_ask_165 (by decide) ?_
  refine zq_icmp_ne (tgt := 179) d_Model_ask_166 (by decide) (fun c => ?_) (fun c => ?_)
  · have hJ := hJ.1 c
    refine zq_iconst (v := 0) d_Model_ask_179 zk_i0 ?_
    refine zr_less (L' := [some (.ref 33), some (.int a1), some (.int a2), some (.int x3), some (.int x4), none]) ⟨rfl, ⟨rfl, ⟨rfl, ⟨rfl, ⟨rfl, trivial⟩⟩⟩⟩⟩ ?_
    exact s_Model_ask_L180  hR15  hJ
  · have hJ := hJ.2 c
    refine zq_aload_n d_Model_ask_169 rfl rfl ?_
    refine zq_iload d_Model_ask_170 rfl ?_
    refine zq_iload_n d_Model_ask_172 rfl rfl ?_
    refine zr_cvI (q := 33) (as := [.int x4, .int a1]) (st := [.int (t1 + t0), .int t2, .int t3, .ref 45]) d_Model_ask_173 cc_Model_322 cv_Model_runOptions zs_Model (s_Model_runOptions  hJ) rfl ⟨Nat.le_of_ble_eq_true rfl, Nat.le_of_ble_eq_true rfl⟩ (Nat.le_of_ble_eq_true rfl) ⟨Nat.le_refl _, Nat.le_refl _⟩ rfl (fun r17 m16 hJ => ?_)
    refine zq_goto (tgt := 180) d_Model_ask_176 (by decide) ?_
    refine zr_less (L' := [some (.ref 33), some (.int a1), some (.int a2), some (.int x3), some (.int x4), none]) ⟨rfl, ⟨rfl, ⟨rfl, ⟨rfl, ⟨rfl, trivial⟩⟩⟩⟩⟩ ?_
    exact s_Model_ask_L180  hR15  hJ
set_option maxHeartbeats 400000 in
theorem s_Model_ask_L154 {g : zk_T} {a1 : Int32} {a2 : Int32} {R15 : Int32 → Int32 → zm → Prop} {K : zm → Prop} (hR15 : ∀ {x3 : Int32} {x4 : Int32} {m : zm}, R15 x3 x4 m → zq_V (zk_g g) ("RiichiTableModel", prog_9_method_51_code, 6, none, false, zq_rm 7 0 0) 0 0 15 [some (.ref 33), some (.int a1), some (.int a2), some (.int x3), some (.int x4), none] [] (zm_hp m) (zm_QV K)) {x3 : Int32} {x4 : Int32} {t0 : Int32} {t1 : Int32} {t2 : Int32} {m : zm} (hJ : j_Model_ask_L154 a1 a2 R15 K x3 x4 t0 t1 t2 m) : zq_V (zk_g g) ("RiichiTableModel", prog_9_method_51_code, 6, none, false, zq_rm 7 0 0) 0 0 154 [some (.ref 33), some (.int a1), some (.int a2), some (.int x3), some (.int x4), none] [.int t0, .int t1, .int t2, .ref 45] (zm_hp m) (zm_QV K) := by
  unfold j_Model_ask_L154 at hJ
  refine zq_iconst (v := 0) d_Model_ask_154 zk_i0 ?_
  refine zr_less (L' := [some (.ref 33), some (.int a1), some (.int a2), some (.int x3), some (.int x4), none]) ⟨rfl, ⟨rfl, ⟨rfl, ⟨rfl, ⟨rfl, trivial⟩⟩⟩⟩⟩ ?_
  exact s_Model_ask_L155  hR15  hJ
set_option maxHeartbeats 400000 in
theorem s_Model_ask_L135 {g : zk_T} {a1 : Int32} {a2 : Int32} {R15 : Int32 → Int32 → zm → Prop} {K : zm → Prop} (hR15 : ∀ {x3 : Int32} {x4 : Int32} {m : zm}, R15 x3 x4 m → zq_V (zk_g g) ("RiichiTableModel", prog_9_method_51_code, 6, none, false, zq_rm 7 0 0) 0 0 15 [some (.ref 33), some (.int a1), some (.int a2), some (.int x3), some (.int x4), none] [] (zm_hp m) (zm_QV K)) {x3 : Int32} {x4 : Int32} {x5 : Int32} {t0 : Int32} {t1 : Int32} {t2 : Int32} {m : zm} (hJ : j_Model_ask_L135 a1 a2 R15 K x3 x4 x5 t0 t1 t2 m) : zq_V (zk_g g) ("RiichiTableModel", prog_9_method_51_code, 6, none, false, zq_rm 7 0 0) 0 0 135 [some (.ref 33), some (.int a1), some (.int a2), some (.int x3), some (.int x4), some (.int x5)] [.int t0, .int t1, .int t2, .ref 45] (zm_hp m) (zm_QV K) := by
  unfold j_Model_ask_L135 at hJ
  refine zq_iload d_Model_ask_135 rfl ?_
  refine zq_iconst (v := 3) d_Model_ask_137 zk_i3 ?_
  refine zq_icmp_lt (tgt := 154) d_Model_ask_138 (by decide) (fun c => ?_) (fun c => ?_)
  · have hJ := hJ.1 c
    refine zr_less (L' := [some (.ref 33), some (.int a1), some (.int a2), some (.int x3), some (.int x4), none]) ⟨rfl, ⟨rfl, ⟨rfl, ⟨rfl, ⟨rfl, trivial⟩⟩⟩⟩⟩ ?_
    exact s_Model_ask_L154  hR15  hJ
  · have hJ := hJ.2 c
    refine zq_aload_n d_Model_ask_141 rfl rfl ?_
    refine zm_getI fg_Model_93 d_Model_ask_142 zs_Model rfl ?_
    refine zq_iconst (v := 4) d_Model_ask_145 zk_i4 ?_
    refine zq_icmp_ge (tgt := 154) d_Model_ask_146 (by decide) (fun c => ?_) (fun c => ?_)
    · have hJ := hJ.1 c
      refine zr_less (L' := [some (.ref 33), some (.int a1), some (.int a2), some (.int x3), some (.int x4), none]) ⟨rfl, ⟨rfl, ⟨rfl, ⟨rfl, ⟨rfl, trivial⟩⟩⟩⟩⟩ ?_
      exact s_Model_ask_L154  hR15  hJ
    · have hJ := hJ.2 c
      refine zq_bipush (v := 8) d_Model_ask_149 zk_b8 ?_
      refine zq_goto (tgt := 155) d_Model_ask_151 (by decide) ?_
      refine zr_less (L' := [some (.ref 33), some (.int a1), some (.int a2), some (.int x3), some (.int x4), none]) ⟨rfl, ⟨rfl, ⟨rfl, ⟨rfl, ⟨rfl, trivial⟩⟩⟩⟩⟩ ?_
      exact s_Model_ask_L155  hR15  hJ
set_option maxHeartbeats 400000 in
theorem s_Model_ask_L79 {g : zk_T} {a1 : Int32} {a2 : Int32} {R15 : Int32 → Int32 → zm → Prop} {K : zm → Prop} (hR15 : ∀ {x3 : Int32} {x4 : Int32} {m : zm}, R15 x3 x4 m → zq_V (zk_g g) ("RiichiTableModel", prog_9_method_51_code, 6, none, false, zq_rm 7 0 0) 0 0 15 [some (.ref 33), some (.int a1), some (.int a2), some (.int x3), some (.int x4), none] [] (zm_hp m) (zm_QV K)) {x3 : Int32} {x4 : Int32} {t0 : Int32} {t1 : Int32} {m : zm} (hJ : j_Model_ask_L79 a1 a2 R15 K x3 x4 t0 t1 m) : zq_V (zk_g g) ("RiichiTableModel", prog_9_method_51_code, 6, none, false, zq_rm 7 0 0) 0 0 79 [some (.ref 33), some (.int a1), some (.int a2), some (.int x3), some (.int x4), none] [.int t0, .int t1, .ref 45] (zm_hp m) (zm_QV K) := by
  unfold j_Model_ask_L79 at hJ
  obtain ⟨hb, hJ⟩ := hJ
  refine zr_ast d_Model_ask_79 (rfl : zm_sh[45]? = some (.inl (0, 4, .inl (fun _ => 0)))) hb (fun m12 hm12 => ?_)
  have hJ := hJ m12 hm12
  refine zq_aload_n d_Model_ask_80 rfl rfl ?_
  refine zm_getR fg_Model_16 d_Model_ask_81 zs_Model rfl ?_
  refine zq_bipush (v := 34) d_Model_ask_84 zk_b34 ?_
  refine zq_iload d_Model_ask_86 rfl ?_
  refine zq_imul d_Model_ask_88 ?_
  refine zq_iload_n d_Model_ask_89 rfl rfl ?_
  refine zq_iadd d_Model_ask_90 ?_
  obtain ⟨hb, hJ⟩ := hJ
  refine zm_ald d_Model_ask_91 (rfl : zm_sh[36]? = some (.inl (0, 136, .inl (fun _ => 0)))) hb ?_
  refine zr_topi (fun y13 hy13 => ?_)
  have hJ := hJ y13 hy13
  refine zr_istore (L' := [some (.ref 33), some (.int a1), some (.int a2), some (.int x3), some (.int x4), some (.int y13)]) d_Model_ask_92 (Nat.le_of_ble_eq_true rfl) rfl ?_
  refine zq_iload_n d_Model_ask_94 rfl rfl ?_
  refine zq_if_ne (tgt := 183) d_Model_ask_95 (by decide) (fun c => ?_) (fun c => ?_)
  · have hJ := hJ.1 c
    refine zr_less (L' := [some (.ref 33), some (.int a1), some (.int a2), some (.int x3), some (.int x4), none]) ⟨rfl, ⟨rfl, ⟨rfl, ⟨rfl, ⟨rfl, trivial⟩⟩⟩⟩⟩ ?_
    exact s_Model_ask_L183  hR15  hJ
  · have hJ := hJ.2 c
    refine zq_aload_n d_Model_ask_98 rfl rfl ?_
    refine zr_cvI (q := 33) (as := []) (st := []) d_Model_ask_99 cc_Model_122 cv_Model_left zs_Model (s_Model_left  hJ) rfl ⟨Nat.le_of_ble_eq_true rfl, Nat.le_of_ble_eq_true rfl⟩ (Nat.le_of_ble_eq_true rfl) ⟨Nat.le_refl _, Nat.le_refl _⟩ rfl (fun r15 m14 hJ => ?_)
    refine zq_iconst (v := 1) d_Model_ask_102 zk_i1 ?_
    refine zq_icmp_lt (tgt := 183) d_Model_ask_103 (by decide) (fun c => ?_) (fun c => ?_)
    · have hJ := hJ.1 c
      refine zr_less (L' := [some (.ref 33), some (.int a1), some (.int a2), some (.int x3), some (.int x4), none]) ⟨rfl, ⟨rfl, ⟨rfl, ⟨rfl, ⟨rfl, trivial⟩⟩⟩⟩⟩ ?_
      exact s_Model_ask_L183  hR15  hJ
    · have hJ := hJ.2 c
      refine zq_aload_n d_Model_ask_106 rfl rfl ?_
      refine zm_getR fg_Model_34 d_Model_ask_107 zs_Model rfl ?_
      refine zq_iload d_Model_ask_110 rfl ?_
      obtain ⟨hb, hJ⟩ := hJ
      refine zm_ald d_Model_ask_112 (rfl : zm_sh[42]? = some (.inl (0, 4, .inl (fun _ => 0)))) hb ?_
      refine zq_if_ne (tgt := 183) d_Model_ask_113 (by decide) (fun c => ?_) (fun c => ?_)
      · have hJ := hJ.1 c
        refine zr_less (L' := [some (.ref 33), some (.int a1), some (.int a2), some (.int x3), some (.int x4), none]) ⟨rfl, ⟨rfl, ⟨rfl, ⟨rfl, ⟨rfl, trivial⟩⟩⟩⟩⟩ ?_
        exact s_Model_ask_L183  hR15  hJ
      · have hJ := hJ.2 c
        refine zq_aload_n d_Model_ask_116 rfl rfl ?_
        refine zm_getR fg_Model_44 d_Model_ask_117 zs_Model rfl ?_
        refine zq_iload d_Model_ask_120 rfl ?_
        refine zq_dup2 d_Model_ask_122 rfl rfl ?_
        obtain ⟨hb, hJ⟩ := hJ
        refine zm_ald d_Model_ask_123 (rfl : zm_sh[45]? = some (.inl (0, 4, .inl (fun _ => 0)))) hb ?_
        refine zq_iload d_Model_ask_124 rfl ?_
        refine zq_iconst (v := 2) d_Model_ask_126 zk_i2 ?_
        refine zq_icmp_lt (tgt := 134) d_Model_ask_127 (by decide) (fun c => ?_) (fun c => ?_)
        · have hJ := hJ.1 c
          refine zq_iconst (v := 0) d_Model_ask_134 zk_i0 ?_
          refine zr_less (L' := [some (.ref 33), some (.int a1), some (.int a2), some (.int x3), some (.int x4), some (.int y13)]) ⟨rfl, ⟨rfl, ⟨rfl, ⟨rfl, ⟨rfl, ⟨rfl, trivial⟩⟩⟩⟩⟩⟩ ?_
          exact s_Model_ask_L135  hR15  hJ
        · have hJ := hJ.2 c
          refine zq_iconst (v := 4) d_Model_ask_130 zk_i4 ?_
          refine zq_goto (tgt := 135) d_Model_ask_131 (by decide) ?_
          refine zr_less (L' := [some (.ref 33), some (.int a1), some (.int a2), some (.int x3), some (.int x4), some (.int y13)]) ⟨rfl, ⟨rfl, ⟨rfl, ⟨rfl, ⟨rfl, ⟨rfl, trivial⟩⟩⟩⟩⟩⟩ ?_
          exact s_Model_ask_L135  hR15  hJ
set_option maxHeartbeats 400000 in
theorem s_Model_ask_L78 {g : zk_T} {a1 : Int32} {a2 : Int32} {R15 : Int32 → Int32 → zm → Prop} {K : zm → Prop} (hR15 : ∀ {x3 : Int32} {x4 : Int32} {m : zm}, R15 x3 x4 m → zq_V (zk_g g) ("RiichiTableModel", prog_9_method_51_code, 6, none, false, zq_rm 7 0 0) 0 0 15 [some (.ref 33), some (.int a1), some (.int a2), some (.int x3), some (.int x4), none] [] (zm_hp m) (zm_QV K)) {x3 : Int32} {x4 : Int32} {t0 : Int32} {m : zm} (hJ : j_Model_ask_L78 a1 a2 R15 K x3 x4 t0 m) : zq_V (zk_g g) ("RiichiTableModel", prog_9_method_51_code, 6, none, false, zq_rm 7 0 0) 0 0 78 [some (.ref 33), some (.int a1), some (.int a2), some (.int x3), some (.int x4), none] [.int t0, .ref 45] (zm_hp m) (zm_QV K) := by
  unfold j_Model_ask_L78 at hJ
  refine zq_iconst (v := 0) d_Model_ask_78 zk_i0 ?_
  refine zr_less (L' := [some (.ref 33), some (.int a1), some (.int a2), some (.int x3), some (.int x4), none]) ⟨rfl, ⟨rfl, ⟨rfl, ⟨rfl, ⟨rfl, trivial⟩⟩⟩⟩⟩ ?_
  exact s_Model_ask_L79  hR15  hJ
set_option maxHeartbeats 400000 in
theorem s_Model_ask_L227 {g : zk_T} {a1 : Int32} {a2 : Int32} {K : zm → Prop} {m : zm} (hJ : j_Model_ask_L227 a1 a2  K  m) : zq_V (zk_g g) ("RiichiTableModel", prog_9_method_51_code, 6, none, false, zq_rm 7 0 0) 0 0 227 [some (.ref 33), some (.int a1), some (.int a2), none, none, none] [] (zm_hp m) (zm_QV K) := by
  unfold j_Model_ask_L227 at hJ
  exact zq_vret d_Model_ask_227 rfl (Nat.le_refl _) (Nat.le_refl _) ⟨_, rfl, rfl, hJ⟩
set_option maxHeartbeats 400000 in
theorem s_Model_ask_L15 {g : zk_T} {a1 : Int32} {a2 : Int32} {K : zm → Prop} : ∀ (n : Nat) {x3 : Int32} {x4 : Int32} {m : zm}, j_Model_ask_L15 a1 a2  K n x3 x4 m → zq_V (zk_g g) ("RiichiTableModel", prog_9_method_51_code, 6, none, false, zq_rm 7 0 0) 0 0 15 [some (.ref 33), some (.int a1), some (.int a2), some (.int x3), some (.int x4), none] [] (zm_hp m) (zm_QV K) := by
  intro n
  induction n with
  | zero =>
    intro x3 x4 m hJ
    exact False.elim hJ
  | succ n ih =>
    intro x3 x4 m hJ
    rw [j_Model_ask_L15] at hJ
    refine zq_iload d_Model_ask_15 rfl ?_
    refine zq_iconst (v := 4) d_Model_ask_17 zk_i4 ?_
    refine zq_icmp_ge (tgt := 209) d_Model_ask_18 (by decide) (fun c => ?_) (fun c => ?_)
    · have hJ := hJ.1 c
      refine zq_aload_n d_Model_ask_209 rfl rfl ?_
      refine zq_iconst (v := 2) d_Model_ask_210 zk_i2 ?_
      refine zr_putI fl_Model_90 d_Model_ask_211 zs_Model rfl rfl (fun m3 hm3 => ?_)
      have hJ := hJ m3 hm3
      refine zq_aload_n d_Model_ask_214 rfl rfl ?_
      refine zq_iload_n d_Model_ask_215 rfl rfl ?_
      obtain ⟨hb, hJ⟩ := hJ
      refine zr_putZ fl_Model_325 d_Model_ask_216 zs_Model rfl rfl hb (fun m4 hm4 => ?_)
      have hJ := hJ m4 hm4
      refine zq_iload_n d_Model_ask_219 rfl rfl ?_
      refine zq_if_ne (tgt := 227) d_Model_ask_220 (by decide) (fun c => ?_) (fun c => ?_)
      · have hJ := hJ.1 c
        refine zr_less (L' := [some (.ref 33), some (.int a1), some (.int a2), none, none, none]) ⟨rfl, ⟨rfl, ⟨rfl, trivial⟩⟩⟩ ?_
        exact s_Model_ask_L227    hJ
      · have hJ := hJ.2 c
        refine zq_aload_n d_Model_ask_223 rfl rfl ?_
        refine zr_cvV (q := 33) (as := []) (st := []) d_Model_ask_224 cc_Model_328 cv_Model_settle zs_Model (s_Model_settle  hJ) rfl ⟨Nat.le_of_ble_eq_true rfl, Nat.le_of_ble_eq_true rfl⟩ (Nat.le_of_ble_eq_true rfl) ⟨Nat.le_refl _, Nat.le_refl _⟩ rfl (fun m5 hJ => ?_)
        refine zr_less (L' := [some (.ref 33), some (.int a1), some (.int a2), none, none, none]) ⟨rfl, ⟨rfl, ⟨rfl, trivial⟩⟩⟩ ?_
        exact s_Model_ask_L227    hJ
    · have hJ := hJ.2 c
      refine zq_aload_n d_Model_ask_21 rfl rfl ?_
      refine zm_getR fg_Model_44 d_Model_ask_22 zs_Model rfl ?_
      refine zq_iload d_Model_ask_25 rfl ?_
      refine zq_iconst (v := 0) d_Model_ask_27 zk_i0 ?_
      obtain ⟨hb, hJ⟩ := hJ
      refine zr_ast d_Model_ask_28 (rfl : zm_sh[45]? = some (.inl (0, 4, .inl (fun _ => 0)))) hb (fun m6 hm6 => ?_)
      have hJ := hJ m6 hm6
      refine zq_aload_n d_Model_ask_29 rfl rfl ?_
      refine zm_getR fg_Model_47 d_Model_ask_30 zs_Model rfl ?_
      refine zq_iload d_Model_ask_33 rfl ?_
      refine zq_iconst (v := 0) d_Model_ask_35 zk_i0 ?_
      obtain ⟨hb, hJ⟩ := hJ
      refine zr_ast d_Model_ask_36 (rfl : zm_sh[46]? = some (.inl (0, 4, .inl (fun _ => 0)))) hb (fun m7 hm7 => ?_)
      have hJ := hJ m7 hm7
      refine zq_iload d_Model_ask_37 rfl ?_
      refine zq_aload_n d_Model_ask_39 rfl rfl ?_
      refine zm_getI fg_Model_113 d_Model_ask_40 zs_Model rfl ?_
      refine zq_icmp_eq (tgt := 203) d_Model_ask_43 (by decide) (fun c => ?_) (fun c => ?_)
      · have hJ := hJ.1 c
        refine zr_less (L' := [some (.ref 33), some (.int a1), some (.int a2), some (.int x3), some (.int x4), none]) ⟨rfl, ⟨rfl, ⟨rfl, ⟨rfl, ⟨rfl, trivial⟩⟩⟩⟩⟩ ?_
        exact s_Model_ask_L203  ih  hJ
      · have hJ := hJ.2 c
        refine zq_aload_n d_Model_ask_46 rfl rfl ?_
        refine zm_getR fg_Model_44 d_Model_ask_47 zs_Model rfl ?_
        refine zq_iload d_Model_ask_50 rfl ?_
        refine zq_aload_n d_Model_ask_52 rfl rfl ?_
        refine zq_iload d_Model_ask_53 rfl ?_
        refine zq_iload_n d_Model_ask_55 rfl rfl ?_
        refine zq_iconst (v := 0) d_Model_ask_56 zk_i0 ?_
        refine zq_iload_n d_Model_ask_57 rfl rfl ?_
        refine zr_cvI (q := 33) (as := [.int x4, .int a1, .int 0, .int a2]) (st := [.int x4, .ref 45]) d_Model_ask_58 cc_Model_315 cv_Model_worthy zs_Model (s_Model_worthy  hJ) rfl ⟨Nat.le_of_ble_eq_true rfl, Nat.le_of_ble_eq_true rfl⟩ (Nat.le_of_ble_eq_true rfl) ⟨Nat.le_refl _, Nat.le_refl _⟩ rfl (fun r9 m8 hJ => ?_)
        refine zq_if_eq (tgt := 78) d_Model_ask_61 (by decide) (fun c => ?_) (fun c => ?_)
        · have hJ := hJ.1 c
          refine zr_less (L' := [some (.ref 33), some (.int a1), some (.int a2), some (.int x3), some (.int x4), none]) ⟨rfl, ⟨rfl, ⟨rfl, ⟨rfl, ⟨rfl, trivial⟩⟩⟩⟩⟩ ?_
          exact s_Model_ask_L78  ih  hJ
        · have hJ := hJ.2 c
          refine zq_aload_n d_Model_ask_64 rfl rfl ?_
          refine zq_iload d_Model_ask_65 rfl ?_
          refine zr_cvI (q := 33) (as := [.int x4]) (st := [.int x4, .ref 45]) d_Model_ask_67 cc_Model_319 cv_Model_isFuriten zs_Model (s_Model_isFuriten  hJ) rfl ⟨Nat.le_of_ble_eq_true rfl, Nat.le_of_ble_eq_true rfl⟩ (Nat.le_of_ble_eq_true rfl) ⟨Nat.le_refl _, Nat.le_refl _⟩ rfl (fun r11 m10 hJ => ?_)
          refine zq_if_ne (tgt := 78) d_Model_ask_70 (by decide) (fun c => ?_) (fun c => ?_)
          · have hJ := hJ.1 c
            refine zr_less (L' := [some (.ref 33), some (.int a1), some (.int a2), some (.int x3), some (.int x4), none]) ⟨rfl, ⟨rfl, ⟨rfl, ⟨rfl, ⟨rfl, trivial⟩⟩⟩⟩⟩ ?_
            exact s_Model_ask_L78  ih  hJ
          · have hJ := hJ.2 c
            refine zq_bipush (v := 16) d_Model_ask_73 zk_b16 ?_
            refine zq_goto (tgt := 79) d_Model_ask_75 (by decide) ?_
            refine zr_less (L' := [some (.ref 33), some (.int a1), some (.int a2), some (.int x3), some (.int x4), none]) ⟨rfl, ⟨rfl, ⟨rfl, ⟨rfl, ⟨rfl, trivial⟩⟩⟩⟩⟩ ?_
            exact s_Model_ask_L79  ih  hJ
set_option maxHeartbeats 400000 in
theorem s_Model_ask {g : zk_T} {a1 : Int32} {a2 : Int32} {K : zm → Prop} {m : zm} (hJ : j_Model_ask a1 a2 m K) : zq_Mt (zk_g g) y_Model_ask 7 0 0 [.ref 33, .int a1, .int a2] (zm_hp m) (zm_QV K) := by
  unfold j_Model_ask at hJ
  refine zq_meth (ini := false) rfl (fun h => by cases h) (Nat.le_of_ble_eq_true rfl) ?_
  refine zr_L (F := ("RiichiTableModel", prog_9_method_51_code, 6, none, false, zq_rm 7 0 0)) (L' := [some (.ref 33), some (.int a1), some (.int a2), none, none, none]) rfl ?_
  refine zq_aload_n d_Model_ask_0 rfl rfl ?_
  refine zq_iload_n d_Model_ask_1 rfl rfl ?_
  refine zr_putI fl_Model_309 d_Model_ask_2 zs_Model rfl rfl (fun m1 hm1 => ?_)
  have hJ := hJ m1 hm1
  refine zq_aload_n d_Model_ask_5 rfl rfl ?_
  refine zq_iload_n d_Model_ask_6 rfl rfl ?_
  obtain ⟨hb, hJ⟩ := hJ
  refine zr_putZ fl_Model_312 d_Model_ask_7 zs_Model rfl rfl hb (fun m2 hm2 => ?_)
  have hJ := hJ m2 hm2
  refine zq_iconst (v := 0) d_Model_ask_10 zk_i0 ?_
  refine zr_istore_n (L' := [some (.ref 33), some (.int a1), some (.int a2), some (.int 0), none, none]) d_Model_ask_11 rfl (Nat.le_of_ble_eq_true rfl) rfl ?_
  refine zq_iconst (v := 0) d_Model_ask_12 zk_i0 ?_
  refine zr_istore (L' := [some (.ref 33), some (.int a1), some (.int a2), some (.int 0), some (.int 0), none]) d_Model_ask_13 (Nat.le_of_ble_eq_true rfl) rfl ?_
  refine zr_less (L' := [some (.ref 33), some (.int a1), some (.int a2), some (.int 0), some (.int 0), none]) ⟨rfl, ⟨rfl, ⟨rfl, ⟨rfl, ⟨rfl, trivial⟩⟩⟩⟩⟩ ?_
  obtain ⟨n15, hJ⟩ := hJ
  exact s_Model_ask_L15   n15  hJ
set_option maxHeartbeats 400000 in
theorem s_Model_discard_L34 {g : zk_T} {a1 : Int32} {a2 : Int32} {K : Int32 → zm → Prop} {m : zm} (hJ : j_Model_discard_L34 a1 a2  K  m) : zq_V (zk_g g) ("RiichiTableModel", prog_9_method_48_code, 4, (some .int), false, zq_rm 8 0 0) 0 0 34 [some (.ref 33), some (.int a1), some (.int a2), none] [] (zm_hp m) (zm_QI K) := by
  unfold j_Model_discard_L34 at hJ
  refine zq_iconst (v := (-1)) d_Model_discard_34 zk_im1 ?_
  exact zq_iret d_Model_discard_35 rfl rfl (Nat.le_refl _) (Nat.le_refl _) ⟨_, _, rfl, rfl, hJ⟩
set_option maxHeartbeats 400000 in
theorem s_Model_discard_L62 {g : zk_T} {a1 : Int32} {a2 : Int32} {K : Int32 → zm → Prop} {m : zm} (hJ : j_Model_discard_L62 a1 a2  K  m) : zq_V (zk_g g) ("RiichiTableModel", prog_9_method_48_code, 4, (some .int), false, zq_rm 8 0 0) 0 0 62 [some (.ref 33), some (.int a1), some (.int a2), none] [] (zm_hp m) (zm_QI K) := by
  unfold j_Model_discard_L62 at hJ
  refine zq_iconst (v := (-1)) d_Model_discard_62 zk_im1 ?_
  exact zq_iret d_Model_discard_63 rfl rfl (Nat.le_refl _) (Nat.le_refl _) ⟨_, _, rfl, rfl, hJ⟩
set_option maxHeartbeats 400000 in
theorem s_Model_discard_L128 {g : zk_T} {a1 : Int32} {a2 : Int32} {K : Int32 → zm → Prop} {x3 : Int32} {m : zm} (hJ : j_Model_discard_L128 a1 a2  K x3 m) : zq_V (zk_g g) ("RiichiTableModel", prog_9_method_48_code, 4, (some .int), false, zq_rm 8 0 0) 0 0 128 [some (.ref 33), some (.int a1), some (.int a2), some (.int x3)] [] (zm_hp m) (zm_QI K) := by
  unfold j_Model_discard_L128 at hJ
  refine zq_aload_n d_Model_discard_128 rfl rfl ?_
  refine zm_getR fg_Model_16 d_Model_discard_129 zs_Model rfl ?_
  refine zq_bipush (v := 34) d_Model_discard_132 zk_b34 ?_
  refine zq_iload_n d_Model_discard_134 rfl rfl ?_
  refine zq_imul d_Model_discard_135 ?_
  refine zq_iload_n d_Model_discard_136 rfl rfl ?_
  refine zq_iadd d_Model_discard_137 ?_
  refine zq_dup2 d_Model_discard_138 rfl rfl ?_
  obtain ⟨hb, hJ⟩ := hJ
  refine zm_ald d_Model_discard_139 (rfl : zm_sh[36]? = some (.inl (0, 136, .inl (fun _ => 0)))) hb ?_
  refine zq_iconst (v := 1) d_Model_discard_140 zk_i1 ?_
  refine zq_iadd d_Model_discard_141 ?_
  obtain ⟨hb, hJ⟩ := hJ
  refine zr_ast d_Model_discard_142 (rfl : zm_sh[36]? = some (.inl (0, 136, .inl (fun _ => 0)))) hb (fun m11 hm11 => ?_)
  have hJ := hJ m11 hm11
  refine zq_iconst (v := (-1)) d_Model_discard_143 zk_im1 ?_
  exact zq_iret d_Model_discard_144 rfl rfl (Nat.le_refl _) (Nat.le_refl _) ⟨_, _, rfl, rfl, hJ⟩
set_option maxHeartbeats 400000 in
theorem s_Model_discard_L188 {g : zk_T} {a1 : Int32} {a2 : Int32} {K : Int32 → zm → Prop} {x3 : Int32} {m : zm} (hJ : j_Model_discard_L188 a1 a2  K x3 m) : zq_V (zk_g g) ("RiichiTableModel", prog_9_method_48_code, 4, (some .int), false, zq_rm 8 0 0) 0 0 188 [some (.ref 33), some (.int a1), some (.int a2), some (.int x3)] [] (zm_hp m) (zm_QI K) := by
  unfold j_Model_discard_L188 at hJ
  refine zq_aload_n d_Model_discard_188 rfl rfl ?_
  refine zm_getR fg_Model_31 d_Model_discard_189 zs_Model rfl ?_
  refine zq_bipush (v := 100) d_Model_discard_192 zk_b100 ?_
  refine zq_iload_n d_Model_discard_194 rfl rfl ?_
  refine zq_imul d_Model_discard_195 ?_
  refine zq_aload_n d_Model_discard_196 rfl rfl ?_
  refine zm_getR fg_Model_28 d_Model_discard_197 zs_Model rfl ?_
  refine zq_iload_n d_Model_discard_200 rfl rfl ?_
  obtain ⟨hb, hJ⟩ := hJ
  refine zm_ald d_Model_discard_201 (rfl : zm_sh[40]? = some (.inl (0, 4, .inl (fun _ => 0)))) hb ?_
  refine zq_iadd d_Model_discard_202 ?_
  refine zq_iload_n d_Model_discard_203 rfl rfl ?_
  obtain ⟨hb, hJ⟩ := hJ
  refine zr_ast d_Model_discard_204 (rfl : zm_sh[41]? = some (.inl (0, 400, .inl (fun _ => 0)))) hb (fun m15 hm15 => ?_)
  have hJ := hJ m15 hm15
  refine zq_aload_n d_Model_discard_205 rfl rfl ?_
  refine zm_getR fg_Model_28 d_Model_discard_206 zs_Model rfl ?_
  refine zq_iload_n d_Model_discard_209 rfl rfl ?_
  refine zq_dup2 d_Model_discard_210 rfl rfl ?_
  obtain ⟨hb, hJ⟩ := hJ
  refine zm_ald d_Model_discard_211 (rfl : zm_sh[40]? = some (.inl (0, 4, .inl (fun _ => 0)))) hb ?_
  refine zq_iconst (v := 1) d_Model_discard_212 zk_i1 ?_
  refine zq_iadd d_Model_discard_213 ?_
  obtain ⟨hb, hJ⟩ := hJ
  refine zr_ast d_Model_discard_214 (rfl : zm_sh[40]? = some (.inl (0, 4, .inl (fun _ => 0)))) hb (fun m16 hm16 => ?_)
  have hJ := hJ m16 hm16
  refine zq_aload_n d_Model_discard_215 rfl rfl ?_
  refine zq_iconst (v := (-1)) d_Model_discard_216 zk_im1 ?_
  refine zr_putI fl_Model_116 d_Model_discard_217 zs_Model rfl rfl (fun m17 hm17 => ?_)
  have hJ := hJ m17 hm17
  refine zq_aload_n d_Model_discard_220 rfl rfl ?_
  refine zq_iload_n d_Model_discard_221 rfl rfl ?_
  refine zq_iconst (v := 0) d_Model_discard_222 zk_i0 ?_
  refine zr_cvV (q := 33) (as := [.int a1, .int 0]) (st := []) d_Model_discard_223 cc_Model_302 cv_Model_ask zs_Model (s_Model_ask  hJ) rfl ⟨Nat.le_of_ble_eq_true rfl, Nat.le_of_ble_eq_true rfl⟩ (Nat.le_of_ble_eq_true rfl) ⟨Nat.le_refl _, Nat.le_refl _⟩ rfl (fun m18 hJ => ?_)
  refine zq_aload_n d_Model_discard_226 rfl rfl ?_
  refine zm_getI fg_Model_90 d_Model_discard_227 zs_Model rfl ?_
  exact zq_iret d_Model_discard_230 rfl rfl (Nat.le_refl _) (Nat.le_refl _) ⟨_, _, rfl, rfl, hJ⟩
set_option maxHeartbeats 400000 in
theorem s_Model_discard_L182 {g : zk_T} {a1 : Int32} {a2 : Int32} {K : Int32 → zm → Prop} {x3 : Int32} {t0 : Int32} {t1 : Int32} {m : zm} (hJ : j_Model_discard_L182 a1 a2  K x3 t0 t1 m) : zq_V (zk_g g) ("RiichiTableModel", prog_9_method_48_code, 4, (some .int), false, zq_rm 8 0 0) 0 0 182 [some (.ref 33), some (.int a1), some (.int a2), some (.int x3)] [.int t0, .int t1, .ref 42] (zm_hp m) (zm_QI K) := by
  unfold j_Model_discard_L182 at hJ
  obtain ⟨hb, hJ⟩ := hJ
  refine zr_ast d_Model_discard_182 (rfl : zm_sh[42]? = some (.inl (0, 4, .inl (fun _ => 0)))) hb (fun m13 hm13 => ?_)
  have hJ := hJ m13 hm13
  refine zq_aload_n d_Model_discard_183 rfl rfl ?_
  refine zq_iload_n d_Model_discard_184 rfl rfl ?_
  refine zr_putI fl_Model_106 d_Model_discard_185 zs_Model rfl rfl (fun m14 hm14 => ?_)
  have hJ := hJ m14 hm14
  refine zr_less (L' := [some (.ref 33), some (.int a1), some (.int a2), some (.int x3)]) ⟨rfl, ⟨rfl, ⟨rfl, ⟨rfl, trivial⟩⟩⟩⟩ ?_
  exact s_Model_discard_L188    hJ
set_option maxHeartbeats 400000 in
theorem s_Model_discard_L181 {g : zk_T} {a1 : Int32} {a2 : Int32} {K : Int32 → zm → Prop} {x3 : Int32} {t0 : Int32} {m : zm} (hJ : j_Model_discard_L181 a1 a2  K x3 t0 m) : zq_V (zk_g g) ("RiichiTableModel", prog_9_method_48_code, 4, (some .int), false, zq_rm 8 0 0) 0 0 181 [some (.ref 33), some (.int a1), some (.int a2), some (.int x3)] [.int t0, .ref 42] (zm_hp m) (zm_QI K) := by
  unfold j_Model_discard_L181 at hJ
  refine zq_iconst (v := 1) d_Model_discard_181 zk_i1 ?_
  refine zr_less (L' := [some (.ref 33), some (.int a1), some (.int a2), some (.int x3)]) ⟨rfl, ⟨rfl, ⟨rfl, ⟨rfl, trivial⟩⟩⟩⟩ ?_
  exact s_Model_discard_L182    hJ
set_option maxHeartbeats 400000 in
theorem s_Model_discard_L145 {g : zk_T} {a1 : Int32} {a2 : Int32} {K : Int32 → zm → Prop} {x3 : Int32} {m : zm} (hJ : j_Model_discard_L145 a1 a2  K x3 m) : zq_V (zk_g g) ("RiichiTableModel", prog_9_method_48_code, 4, (some .int), false, zq_rm 8 0 0) 0 0 145 [some (.ref 33), some (.int a1), some (.int a2), some (.int x3)] [] (zm_hp m) (zm_QI K) := by
  unfold j_Model_discard_L145 at hJ
  refine zq_aload_n d_Model_discard_145 rfl rfl ?_
  refine zm_getR fg_Model_37 d_Model_discard_146 zs_Model rfl ?_
  refine zq_iload_n d_Model_discard_149 rfl rfl ?_
  refine zq_iload_n d_Model_discard_150 rfl rfl ?_
  obtain ⟨hb, hJ⟩ := hJ
  obtain ⟨hz, hJ⟩ := hJ
  refine zr_zst d_Model_discard_151 (rfl : zm_sh[43]? = some (.inl (2, 4, .inl (fun _ => 0)))) hb hz (fun m12 hm12 => ?_)
  have hJ := hJ m12 hm12
  refine zq_iload_n d_Model_discard_152 rfl rfl ?_
  refine zq_if_eq (tgt := 188) d_Model_discard_153 (by decide) (fun c => ?_) (fun c => ?_)
  · have hJ := hJ.1 c
    refine zr_less (L' := [some (.ref 33), some (.int a1), some (.int a2), some (.int x3)]) ⟨rfl, ⟨rfl, ⟨rfl, ⟨rfl, trivial⟩⟩⟩⟩ ?_
    exact s_Model_discard_L188    hJ
  · have hJ := hJ.2 c
    refine zq_aload_n d_Model_discard_156 rfl rfl ?_
    refine zm_getR fg_Model_34 d_Model_discard_157 zs_Model rfl ?_
    refine zq_iload_n d_Model_discard_160 rfl rfl ?_
    refine zq_aload_n d_Model_discard_161 rfl rfl ?_
    refine zm_getR fg_Model_28 d_Model_discard_162 zs_Model rfl ?_
    refine zq_iload_n d_Model_discard_165 rfl rfl ?_
    obtain ⟨hb, hJ⟩ := hJ
    refine zm_ald d_Model_discard_166 (rfl : zm_sh[40]? = some (.inl (0, 4, .inl (fun _ => 0)))) hb ?_
    refine zq_if_ne (tgt := 181) d_Model_discard_167 (by decide) (fun c => ?_) (fun c => ?_)
    · have hJ := hJ.1 c
      refine zr_less (L' := [some (.ref 33), some (.int a1), some (.int a2), some (.int x3)]) ⟨rfl, ⟨rfl, ⟨rfl, ⟨rfl, trivial⟩⟩⟩⟩ ?_
      exact s_Model_discard_L181    hJ
    · have hJ := hJ.2 c
      refine zq_aload_n d_Model_discard_170 rfl rfl ?_
      refine zm_getI fg_Model_102 d_Model_discard_171 zs_Model rfl ?_
      refine zq_if_ne (tgt := 181) d_Model_discard_174 (by decide) (fun c => ?_) (fun c => ?_)
      · have hJ := hJ.1 c
        refine zr_less (L' := [some (.ref 33), some (.int a1), some (.int a2), some (.int x3)]) ⟨rfl, ⟨rfl, ⟨rfl, ⟨rfl, trivial⟩⟩⟩⟩ ?_
        exact s_Model_discard_L181    hJ
      · have hJ := hJ.2 c
        refine zq_iconst (v := 2) d_Model_discard_177 zk_i2 ?_
        refine zq_goto (tgt := 182) d_Model_discard_178 (by decide) ?_
        refine zr_less (L' := [some (.ref 33), some (.int a1), some (.int a2), some (.int x3)]) ⟨rfl, ⟨rfl, ⟨rfl, ⟨rfl, trivial⟩⟩⟩⟩ ?_
        exact s_Model_discard_L182    hJ
set_option maxHeartbeats 400000 in
theorem s_Model_discard_L64 {g : zk_T} {a1 : Int32} {a2 : Int32} {K : Int32 → zm → Prop} {x3 : Int32} {m : zm} (hJ : j_Model_discard_L64 a1 a2  K x3 m) : zq_V (zk_g g) ("RiichiTableModel", prog_9_method_48_code, 4, (some .int), false, zq_rm 8 0 0) 0 0 64 [some (.ref 33), some (.int a1), some (.int a2), some (.int x3)] [] (zm_hp m) (zm_QI K) := by
  unfold j_Model_discard_L64 at hJ
  refine zq_aload_n d_Model_discard_64 rfl rfl ?_
  refine zm_getR fg_Model_16 d_Model_discard_65 zs_Model rfl ?_
  refine zq_bipush (v := 34) d_Model_discard_68 zk_b34 ?_
  refine zq_iload_n d_Model_discard_70 rfl rfl ?_
  refine zq_imul d_Model_discard_71 ?_
  refine zq_iload_n d_Model_discard_72 rfl rfl ?_
  refine zq_iadd d_Model_discard_73 ?_
  refine zq_dup2 d_Model_discard_74 rfl rfl ?_
  obtain ⟨hb, hJ⟩ := hJ
  refine zm_ald d_Model_discard_75 (rfl : zm_sh[36]? = some (.inl (0, 136, .inl (fun _ => 0)))) hb ?_
  refine zq_iconst (v := 1) d_Model_discard_76 zk_i1 ?_
  refine zq_isub d_Model_discard_77 ?_
  obtain ⟨hb, hJ⟩ := hJ
  refine zr_ast d_Model_discard_78 (rfl : zm_sh[36]? = some (.inl (0, 136, .inl (fun _ => 0)))) hb (fun m4 hm4 => ?_)
  have hJ := hJ m4 hm4
  refine zq_iload_n d_Model_discard_79 rfl rfl ?_
  refine zq_if_eq (tgt := 145) d_Model_discard_80 (by decide) (fun c => ?_) (fun c => ?_)
  · have hJ := hJ.1 c
    refine zr_less (L' := [some (.ref 33), some (.int a1), some (.int a2), some (.int x3)]) ⟨rfl, ⟨rfl, ⟨rfl, ⟨rfl, trivial⟩⟩⟩⟩ ?_
    exact s_Model_discard_L145    hJ
  · have hJ := hJ.2 c
    refine zq_aload_n d_Model_discard_83 rfl rfl ?_
    refine zq_iload_n d_Model_discard_84 rfl rfl ?_
    refine zr_cvI (q := 33) (as := [.int x3]) (st := []) d_Model_discard_85 cc_Model_194 cv_Model_isClosed zs_Model (s_Model_isClosed  hJ) rfl ⟨Nat.le_of_ble_eq_true rfl, Nat.le_of_ble_eq_true rfl⟩ (Nat.le_of_ble_eq_true rfl) ⟨Nat.le_refl _, Nat.le_refl _⟩ rfl (fun r6 m5 hJ => ?_)
    refine zq_if_eq (tgt := 128) d_Model_discard_88 (by decide) (fun c => ?_) (fun c => ?_)
    · have hJ := hJ.1 c
      refine zr_less (L' := [some (.ref 33), some (.int a1), some (.int a2), some (.int x3)]) ⟨rfl, ⟨rfl, ⟨rfl, ⟨rfl, trivial⟩⟩⟩⟩ ?_
      exact s_Model_discard_L128    hJ
    · have hJ := hJ.2 c
      refine zq_aload_n d_Model_discard_91 rfl rfl ?_
      refine zm_getR fg_Model_13 d_Model_discard_92 zs_Model rfl ?_
      refine zq_iload_n d_Model_discard_95 rfl rfl ?_
      obtain ⟨hb, hJ⟩ := hJ
      refine zm_ald d_Model_discard_96 (rfl : zm_sh[35]? = some (.inl (0, 4, .inl (fun _ => 0)))) hb ?_
      refine zq_sipush (v := 1000) d_Model_discard_97 zk_s1000 ?_
      refine zq_icmp_lt (tgt := 128) d_Model_discard_100 (by decide) (fun c => ?_) (fun c => ?_)
      · have hJ := hJ.1 c
        refine zr_less (L' := [some (.ref 33), some (.int a1), some (.int a2), some (.int x3)]) ⟨rfl, ⟨rfl, ⟨rfl, ⟨rfl, trivial⟩⟩⟩⟩ ?_
        exact s_Model_discard_L128    hJ
      · have hJ := hJ.2 c
        refine zq_aload_n d_Model_discard_103 rfl rfl ?_
        refine zr_cvI (q := 33) (as := []) (st := []) d_Model_discard_104 cc_Model_122 cv_Model_left zs_Model (s_Model_left  hJ) rfl ⟨Nat.le_of_ble_eq_true rfl, Nat.le_of_ble_eq_true rfl⟩ (Nat.le_of_ble_eq_true rfl) ⟨Nat.le_refl _, Nat.le_refl _⟩ rfl (fun r8 m7 hJ => ?_)
        refine zq_iconst (v := 4) d_Model_discard_107 zk_i4 ?_
        refine zq_icmp_lt (tgt := 128) d_Model_discard_108 (by decide) (fun c => ?_) (fun c => ?_)
        · have hJ := hJ.1 c
          refine zr_less (L' := [some (.ref 33), some (.int a1), some (.int a2), some (.int x3)]) ⟨rfl, ⟨rfl, ⟨rfl, ⟨rfl, trivial⟩⟩⟩⟩ ?_
          exact s_Model_discard_L128    hJ
        · have hJ := hJ.2 c
          refine zq_aload_n d_Model_discard_111 rfl rfl ?_
          refine zm_getI fg_Model_116 d_Model_discard_112 zs_Model rfl ?_
          refine zq_if_lt (tgt := 128) d_Model_discard_115 (by decide) (fun c => ?_) (fun c => ?_)
          · have hJ := hJ.1 c
            refine zr_less (L' := [some (.ref 33), some (.int a1), some (.int a2), some (.int x3)]) ⟨rfl, ⟨rfl, ⟨rfl, ⟨rfl, trivial⟩⟩⟩⟩ ?_
            exact s_Model_discard_L128    hJ
          · have hJ := hJ.2 c
            refine zq_aload_n d_Model_discard_118 rfl rfl ?_
            refine zq_iload_n d_Model_discard_119 rfl rfl ?_
            refine zr_cvL (q := 33) (as := [.int x3]) (st := []) d_Model_discard_120 cc_Model_177 cv_Model_waitsOf zs_Model (s_Model_waitsOf  hJ) rfl ⟨Nat.le_of_ble_eq_true rfl, Nat.le_of_ble_eq_true rfl⟩ (Nat.le_of_ble_eq_true rfl) ⟨Nat.le_refl _, Nat.le_refl _⟩ rfl (fun r10 m9 hJ => ?_)
            refine zq_lconst (v := 0) d_Model_discard_123 zk_l0 ?_
            refine zq_lcmp d_Model_discard_124 ?_
            refine zq_if_ne (tgt := 145) d_Model_discard_125 (by decide) (fun c => ?_) (fun c => ?_)
            · have hJ := hJ.1 c
              refine zr_less (L' := [some (.ref 33), some (.int a1), some (.int a2), some (.int x3)]) ⟨rfl, ⟨rfl, ⟨rfl, ⟨rfl, trivial⟩⟩⟩⟩ ?_
              exact s_Model_discard_L145    hJ
            · have hJ := hJ.2 c
              refine zr_less (L' := [some (.ref 33), some (.int a1), some (.int a2), some (.int x3)]) ⟨rfl, ⟨rfl, ⟨rfl, ⟨rfl, trivial⟩⟩⟩⟩ ?_
              exact s_Model_discard_L128    hJ
set_option maxHeartbeats 400000 in
theorem s_Model_discard {g : zk_T} {a1 : Int32} {a2 : Int32} {K : Int32 → zm → Prop} {m : zm} (hJ : j_Model_discard a1 a2 m K) : zq_Mt (zk_g g) y_Model_discard 8 0 0 [.ref 33, .int a1, .int a2] (zm_hp m) (zm_QI K) := by
  unfold j_Model_discard at hJ
  refine zq_meth (ini := false) rfl (fun h => by cases h) (Nat.le_of_ble_eq_true rfl) ?_
  refine zr_L (F := ("RiichiTableModel", prog_9_method_48_code, 4, (some .int), false, zq_rm 8 0 0)) (L' := [some (.ref 33), some (.int a1), some (.int a2), none]) rfl ?_
  refine zq_aload_n d_Model_discard_0 rfl rfl ?_
  refine zr_cvI (q := 33) (as := []) (st := []) d_Model_discard_1 cc_Model_299 cv_Model_isTurn zs_Model (s_Model_isTurn  hJ) rfl ⟨Nat.le_of_ble_eq_true rfl, Nat.le_of_ble_eq_true rfl⟩ (Nat.le_of_ble_eq_true rfl) ⟨Nat.le_refl _, Nat.le_refl _⟩ rfl (fun r2 m1 hJ => ?_)
  refine zq_if_eq (tgt := 34) d_Model_discard_4 (by decide) (fun c => ?_) (fun c => ?_)
  · have hJ := hJ.1 c
    refine zr_less (L' := [some (.ref 33), some (.int a1), some (.int a2), none]) ⟨rfl, ⟨rfl, ⟨rfl, trivial⟩⟩⟩ ?_
    exact s_Model_discard_L34    hJ
  · have hJ := hJ.2 c
    refine zq_iload_n d_Model_discard_7 rfl rfl ?_
    refine zq_if_lt (tgt := 34) d_Model_discard_8 (by decide) (fun c => ?_) (fun c => ?_)
    · have hJ := hJ.1 c
      refine zr_less (L' := [some (.ref 33), some (.int a1), some (.int a2), none]) ⟨rfl, ⟨rfl, ⟨rfl, trivial⟩⟩⟩ ?_
      exact s_Model_discard_L34    hJ
    · have hJ := hJ.2 c
      refine zq_iload_n d_Model_discard_11 rfl rfl ?_
      refine zq_bipush (v := 33) d_Model_discard_12 zk_b33 ?_
      refine zq_icmp_gt (tgt := 34) d_Model_discard_14 (by decide) (fun c => ?_) (fun c => ?_)
      · have hJ := hJ.1 c
        refine zr_less (L' := [some (.ref 33), some (.int a1), some (.int a2), none]) ⟨rfl, ⟨rfl, ⟨rfl, trivial⟩⟩⟩ ?_
        exact s_Model_discard_L34    hJ
      · have hJ := hJ.2 c
        refine zq_aload_n d_Model_discard_17 rfl rfl ?_
        refine zm_getR fg_Model_16 d_Model_discard_18 zs_Model rfl ?_
        refine zq_bipush (v := 34) d_Model_discard_21 zk_b34 ?_
        refine zq_aload_n d_Model_discard_23 rfl rfl ?_
        refine zm_getI fg_Model_113 d_Model_discard_24 zs_Model rfl ?_
        refine zq_imul d_Model_discard_27 ?_
        refine zq_iload_n d_Model_discard_28 rfl rfl ?_
        refine zq_iadd d_Model_discard_29 ?_
        obtain ⟨hb, hJ⟩ := hJ
        refine zm_ald d_Model_discard_30 (rfl : zm_sh[36]? = some (.inl (0, 136, .inl (fun _ => 0)))) hb ?_
        refine zq_if_ne (tgt := 36) d_Model_discard_31 (by decide) (fun c => ?_) (fun c => ?_)
        · have hJ := hJ.1 c
          refine zq_aload_n d_Model_discard_36 rfl rfl ?_
          refine zm_getI fg_Model_113 d_Model_discard_37 zs_Model rfl ?_
          refine zr_topi (fun y3 hy3 => ?_)
          have hJ := hJ y3 hy3
          refine zr_istore_n (L' := [some (.ref 33), some (.int a1), some (.int a2), some (.int y3)]) d_Model_discard_40 rfl (Nat.le_of_ble_eq_true rfl) rfl ?_
          refine zq_aload_n d_Model_discard_41 rfl rfl ?_
          refine zm_getR fg_Model_34 d_Model_discard_42 zs_Model rfl ?_
          refine zq_iload_n d_Model_discard_45 rfl rfl ?_
          obtain ⟨hb, hJ⟩ := hJ
          refine zm_ald d_Model_discard_46 (rfl : zm_sh[42]? = some (.inl (0, 4, .inl (fun _ => 0)))) hb ?_
          refine zq_if_le (tgt := 64) d_Model_discard_47 (by decide) (fun c => ?_) (fun c => ?_)
          · have hJ := hJ.1 c
            refine zr_less (L' := [some (.ref 33), some (.int a1), some (.int a2), some (.int y3)]) ⟨rfl, ⟨rfl, ⟨rfl, ⟨rfl, trivial⟩⟩⟩⟩ ?_
            exact s_Model_discard_L64    hJ
          · have hJ := hJ.2 c
            refine zq_iload_n d_Model_discard_50 rfl rfl ?_
            refine zq_if_ne (tgt := 62) d_Model_discard_51 (by decide) (fun c => ?_) (fun c => ?_)
            · have hJ := hJ.1 c
              refine zr_less (L' := [some (.ref 33), some (.int a1), some (.int a2), none]) ⟨rfl, ⟨rfl, ⟨rfl, trivial⟩⟩⟩ ?_
              exact s_Model_discard_L62    hJ
            · have hJ := hJ.2 c
              refine zq_iload_n d_Model_discard_54 rfl rfl ?_
              refine zq_aload_n d_Model_discard_55 rfl rfl ?_
              refine zm_getI fg_Model_116 d_Model_discard_56 zs_Model rfl ?_
              refine zq_icmp_eq (tgt := 64) d_Model_discard_59 (by decide) (fun c => ?_) (fun c => ?_)
              · have hJ := hJ.1 c
                refine zr_less (L' := [some (.ref 33), some (.int a1), some (.int a2), some (.int y3)]) ⟨rfl, ⟨rfl, ⟨rfl, ⟨rfl, trivial⟩⟩⟩⟩ ?_
                exact s_Model_discard_L64    hJ
              · have hJ := hJ.2 c
                refine zr_less (L' := [some (.ref 33), some (.int a1), some (.int a2), none]) ⟨rfl, ⟨rfl, ⟨rfl, trivial⟩⟩⟩ ?_
                exact s_Model_discard_L62    hJ
        · have hJ := hJ.2 c
          refine zr_less (L' := [some (.ref 33), some (.int a1), some (.int a2), none]) ⟨rfl, ⟨rfl, ⟨rfl, trivial⟩⟩⟩ ?_
          exact s_Model_discard_L34    hJ
set_option maxHeartbeats 400000 in
theorem s_Model_options_L31 {g : zk_T} {a1 : Int32} {K : Int32 → zm → Prop} {t0 : Int32} {m : zm} (hJ : j_Model_options_L31 a1  K t0 m) : zq_V (zk_g g) ("RiichiTableModel", prog_9_method_52_code, 2, (some .int), false, zq_rm 0 0 0) 0 0 31 [some (.ref 33), some (.int a1)] [.int t0] (zm_hp m) (zm_QI K) := by
  unfold j_Model_options_L31 at hJ
  exact zq_iret d_Model_options_31 rfl rfl (Nat.le_refl _) (Nat.le_refl _) ⟨_, _, rfl, rfl, hJ⟩
set_option maxHeartbeats 400000 in
theorem s_Model_options_L9 {g : zk_T} {a1 : Int32} {K : Int32 → zm → Prop} {m : zm} (hJ : j_Model_options_L9 a1  K  m) : zq_V (zk_g g) ("RiichiTableModel", prog_9_method_52_code, 2, (some .int), false, zq_rm 0 0 0) 0 0 9 [some (.ref 33), some (.int a1)] [] (zm_hp m) (zm_QI K) := by
  unfold j_Model_options_L9 at hJ
  refine zq_iconst (v := (-1)) d_Model_options_9 zk_im1 ?_
  refine zq_goto (tgt := 31) d_Model_options_10 (by decide) ?_
  refine zr_less (L' := [some (.ref 33), some (.int a1)]) ⟨rfl, ⟨rfl, trivial⟩⟩ ?_
  exact s_Model_options_L31    hJ
set_option maxHeartbeats 400000 in
theorem s_Model_options {g : zk_T} {a1 : Int32} {K : Int32 → zm → Prop} {m : zm} (hJ : j_Model_options a1 m K) : zq_Mt (zk_g g) y_Model_options 0 0 0 [.ref 33, .int a1] (zm_hp m) (zm_QI K) := by
  unfold j_Model_options at hJ
  refine zq_meth (ini := false) rfl (fun h => by cases h) (Nat.le_of_ble_eq_true rfl) ?_
  refine zr_L (F := ("RiichiTableModel", prog_9_method_52_code, 2, (some .int), false, zq_rm 0 0 0)) (L' := [some (.ref 33), some (.int a1)]) rfl ?_
  refine zq_iload_n d_Model_options_0 rfl rfl ?_
  refine zq_if_lt (tgt := 9) d_Model_options_1 (by decide) (fun c => ?_) (fun c => ?_)
  · have hJ := hJ.1 c
    refine zr_less (L' := [some (.ref 33), some (.int a1)]) ⟨rfl, ⟨rfl, trivial⟩⟩ ?_
    exact s_Model_options_L9    hJ
  · have hJ := hJ.2 c
    refine zq_iload_n d_Model_options_4 rfl rfl ?_
    refine zq_iconst (v := 3) d_Model_options_5 zk_i3 ?_
    refine zq_icmp_le (tgt := 13) d_Model_options_6 (by decide) (fun c => ?_) (fun c => ?_)
    · have hJ := hJ.1 c
      refine zq_aload_n d_Model_options_13 rfl rfl ?_
      refine zm_getI fg_Model_90 d_Model_options_14 zs_Model rfl ?_
      refine zq_iconst (v := 2) d_Model_options_17 zk_i2 ?_
      refine zq_icmp_ne (tgt := 30) d_Model_options_18 (by decide) (fun c => ?_) (fun c => ?_)
      · have hJ := hJ.1 c
        refine zq_iconst (v := 0) d_Model_options_30 zk_i0 ?_
        refine zr_less (L' := [some (.ref 33), some (.int a1)]) ⟨rfl, ⟨rfl, trivial⟩⟩ ?_
        exact s_Model_options_L31    hJ
      · have hJ := hJ.2 c
        refine zq_aload_n d_Model_options_21 rfl rfl ?_
        refine zm_getR fg_Model_44 d_Model_options_22 zs_Model rfl ?_
        refine zq_iload_n d_Model_options_25 rfl rfl ?_
        obtain ⟨hb, hJ⟩ := hJ
        refine zm_ald d_Model_options_26 (rfl : zm_sh[45]? = some (.inl (0, 4, .inl (fun _ => 0)))) hb ?_
        refine zq_goto (tgt := 31) d_Model_options_27 (by decide) ?_
        refine zr_less (L' := [some (.ref 33), some (.int a1)]) ⟨rfl, ⟨rfl, trivial⟩⟩ ?_
        exact s_Model_options_L31    hJ
    · have hJ := hJ.2 c
      refine zr_less (L' := [some (.ref 33), some (.int a1)]) ⟨rfl, ⟨rfl, trivial⟩⟩ ?_
      exact s_Model_options_L9    hJ
set_option maxHeartbeats 400000 in
theorem s_Model_claim_L35 {g : zk_T} {a1 : Int32} {a2 : Int32} {a3 : Int32} {K : Int32 → zm → Prop} {m : zm} (hJ : j_Model_claim_L35 a1 a2 a3  K  m) : zq_V (zk_g g) ("RiichiTableModel", prog_9_method_53_code, 4, (some .int), false, zq_rm 7 0 0) 0 0 35 [some (.ref 33), some (.int a1), some (.int a2), some (.int a3)] [] (zm_hp m) (zm_QI K) := by
  unfold j_Model_claim_L35 at hJ
  refine zq_iconst (v := (-1)) d_Model_claim_35 zk_im1 ?_
  exact zq_iret d_Model_claim_36 rfl rfl (Nat.le_refl _) (Nat.le_refl _) ⟨_, _, rfl, rfl, hJ⟩
set_option maxHeartbeats 400000 in
theorem s_Model_claim_L72 {g : zk_T} {a1 : Int32} {a2 : Int32} {a3 : Int32} {K : Int32 → zm → Prop} {m : zm} (hJ : j_Model_claim_L72 a1 a2 a3  K  m) : zq_V (zk_g g) ("RiichiTableModel", prog_9_method_53_code, 4, (some .int), false, zq_rm 7 0 0) 0 0 72 [some (.ref 33), some (.int a1), some (.int a2), some (.int a3)] [] (zm_hp m) (zm_QI K) := by
  unfold j_Model_claim_L72 at hJ
  refine zq_iconst (v := (-1)) d_Model_claim_72 zk_im1 ?_
  exact zq_iret d_Model_claim_73 rfl rfl (Nat.le_refl _) (Nat.le_refl _) ⟨_, _, rfl, rfl, hJ⟩
set_option maxHeartbeats 400000 in
theorem s_Model_claim_L129 {g : zk_T} {a1 : Int32} {a2 : Int32} {a3 : Int32} {K : Int32 → zm → Prop} {m : zm} (hJ : j_Model_claim_L129 a1 a2 a3  K  m) : zq_V (zk_g g) ("RiichiTableModel", prog_9_method_53_code, 4, (some .int), false, zq_rm 7 0 0) 0 0 129 [some (.ref 33), some (.int a1), some (.int a2), some (.int a3)] [] (zm_hp m) (zm_QI K) := by
  unfold j_Model_claim_L129 at hJ
  refine zq_aload_n d_Model_claim_129 rfl rfl ?_
  refine zm_getI fg_Model_90 d_Model_claim_130 zs_Model rfl ?_
  exact zq_iret d_Model_claim_133 rfl rfl (Nat.le_refl _) (Nat.le_refl _) ⟨_, _, rfl, rfl, hJ⟩
set_option maxHeartbeats 400000 in
theorem s_Model_claim_L74 {g : zk_T} {a1 : Int32} {a2 : Int32} {a3 : Int32} {K : Int32 → zm → Prop} {m : zm} (hJ : j_Model_claim_L74 a1 a2 a3  K  m) : zq_V (zk_g g) ("RiichiTableModel", prog_9_method_53_code, 4, (some .int), false, zq_rm 7 0 0) 0 0 74 [some (.ref 33), some (.int a1), some (.int a2), some (.int a3)] [] (zm_hp m) (zm_QI K) := by
  unfold j_Model_claim_L74 at hJ
  refine zq_aload_n d_Model_claim_74 rfl rfl ?_
  refine zm_getR fg_Model_44 d_Model_claim_75 zs_Model rfl ?_
  refine zq_iload_n d_Model_claim_78 rfl rfl ?_
  refine zq_iconst (v := 0) d_Model_claim_79 zk_i0 ?_
  obtain ⟨hb, hJ⟩ := hJ
  refine zr_ast d_Model_claim_80 (rfl : zm_sh[45]? = some (.inl (0, 4, .inl (fun _ => 0)))) hb (fun m3 hm3 => ?_)
  have hJ := hJ m3 hm3
  refine zq_aload_n d_Model_claim_81 rfl rfl ?_
  refine zm_getR fg_Model_47 d_Model_claim_82 zs_Model rfl ?_
  refine zq_iload_n d_Model_claim_85 rfl rfl ?_
  refine zq_iload_n d_Model_claim_86 rfl rfl ?_
  obtain ⟨hb, hJ⟩ := hJ
  refine zr_ast d_Model_claim_87 (rfl : zm_sh[46]? = some (.inl (0, 4, .inl (fun _ => 0)))) hb (fun m4 hm4 => ?_)
  have hJ := hJ m4 hm4
  refine zq_aload_n d_Model_claim_88 rfl rfl ?_
  refine zm_getR fg_Model_50 d_Model_claim_89 zs_Model rfl ?_
  refine zq_iload_n d_Model_claim_92 rfl rfl ?_
  refine zq_iload_n d_Model_claim_93 rfl rfl ?_
  obtain ⟨hb, hJ⟩ := hJ
  refine zr_ast d_Model_claim_94 (rfl : zm_sh[47]? = some (.inl (0, 4, .inl (fun _ => 0)))) hb (fun m5 hm5 => ?_)
  have hJ := hJ m5 hm5
  refine zq_aload_n d_Model_claim_95 rfl rfl ?_
  refine zm_getR fg_Model_44 d_Model_claim_96 zs_Model rfl ?_
  refine zq_iconst (v := 0) d_Model_claim_99 zk_i0 ?_
  refine zm_ald d_Model_claim_100 (rfl : zm_sh[45]? = some (.inl (0, 4, .inl (fun _ => 0)))) (show vp_in 0 4 by unfold vp_in; decide) ?_
  refine zq_aload_n d_Model_claim_101 rfl rfl ?_
  refine zm_getR fg_Model_44 d_Model_claim_102 zs_Model rfl ?_
  refine zq_iconst (v := 1) d_Model_claim_105 zk_i1 ?_
  refine zm_ald d_Model_claim_106 (rfl : zm_sh[45]? = some (.inl (0, 4, .inl (fun _ => 0)))) (show vp_in 1 4 by unfold vp_in; decide) ?_
  refine zq_iadd d_Model_claim_107 ?_
  refine zq_aload_n d_Model_claim_108 rfl rfl ?_
  refine zm_getR fg_Model_44 d_Model_claim_109 zs_Model rfl ?_
  refine zq_iconst (v := 2) d_Model_claim_112 zk_i2 ?_
  refine zm_ald d_Model_claim_113 (rfl : zm_sh[45]? = some (.inl (0, 4, .inl (fun _ => 0)))) (show vp_in 2 4 by unfold vp_in; decide) ?_
  refine zq_iadd d_Model_claim_114 ?_
  refine zq_aload_n d_Model_claim_115 rfl rfl ?_
  refine zm_getR fg_Model_44 d_Model_claim_116 zs_Model rfl ?_
  refine zq_iconst (v := 3) d_Model_claim_119 zk_i3 ?_
  refine zm_ald d_Model_claim_120 (rfl : zm_sh[45]? = some (.inl (0, 4, .inl (fun _ => 0)))) (show vp_in 3 4 by unfold vp_in; decide) ?_
  refine zq_iadd d_Model_claim_121 ?_
  refine zq_if_ne (tgt := 129) d_Model_claim_122 (by decide) (fun c => ?_) (fun c => ?_)
  · have hJ := hJ.1 c
    refine zr_less (L' := [some (.ref 33), some (.int a1), some (.int a2), some (.int a3)]) ⟨rfl, ⟨rfl, ⟨rfl, ⟨rfl, trivial⟩⟩⟩⟩ ?_
    exact s_Model_claim_L129    hJ
  · have hJ := hJ.2 c
    refine zq_aload_n d_Model_claim_125 rfl rfl ?_
    refine zr_cvV (q := 33) (as := []) (st := []) d_Model_claim_126 cc_Model_328 cv_Model_settle zs_Model (s_Model_settle  hJ) rfl ⟨Nat.le_of_ble_eq_true rfl, Nat.le_of_ble_eq_true rfl⟩ (Nat.le_of_ble_eq_true rfl) ⟨Nat.le_refl _, Nat.le_refl _⟩ rfl (fun m6 hJ => ?_)
    refine zr_less (L' := [some (.ref 33), some (.int a1), some (.int a2), some (.int a3)]) ⟨rfl, ⟨rfl, ⟨rfl, ⟨rfl, trivial⟩⟩⟩⟩ ?_
    exact s_Model_claim_L129    hJ
set_option maxHeartbeats 400000 in
theorem s_Model_claim_L54 {g : zk_T} {a1 : Int32} {a2 : Int32} {a3 : Int32} {K : Int32 → zm → Prop} {m : zm} (hJ : j_Model_claim_L54 a1 a2 a3  K  m) : zq_V (zk_g g) ("RiichiTableModel", prog_9_method_53_code, 4, (some .int), false, zq_rm 7 0 0) 0 0 54 [some (.ref 33), some (.int a1), some (.int a2), some (.int a3)] [] (zm_hp m) (zm_QI K) := by
  unfold j_Model_claim_L54 at hJ
  refine zq_iload_n d_Model_claim_54 rfl rfl ?_
  refine zq_iconst (v := 1) d_Model_claim_55 zk_i1 ?_
  refine zq_icmp_ne (tgt := 74) d_Model_claim_56 (by decide) (fun c => ?_) (fun c => ?_)
  · have hJ := hJ.1 c
    refine zr_less (L' := [some (.ref 33), some (.int a1), some (.int a2), some (.int a3)]) ⟨rfl, ⟨rfl, ⟨rfl, ⟨rfl, trivial⟩⟩⟩⟩ ?_
    exact s_Model_claim_L74    hJ
  · have hJ := hJ.2 c
    refine zq_aload_n d_Model_claim_59 rfl rfl ?_
    refine zq_iload_n d_Model_claim_60 rfl rfl ?_
    refine zq_aload_n d_Model_claim_61 rfl rfl ?_
    refine zm_getI fg_Model_309 d_Model_claim_62 zs_Model rfl ?_
    refine zq_iload_n d_Model_claim_65 rfl rfl ?_
    refine zr_cvI (q := 33) (as := [.int a1, .int (m.1 33 24), .int a3]) (st := []) d_Model_claim_66 cc_Model_306 cv_Model_canRun zs_Model (s_Model_canRun  hJ) rfl ⟨Nat.le_of_ble_eq_true rfl, Nat.le_of_ble_eq_true rfl⟩ (Nat.le_of_ble_eq_true rfl) ⟨Nat.le_refl _, Nat.le_refl _⟩ rfl (fun r2 m1 hJ => ?_)
    refine zq_if_ne (tgt := 74) d_Model_claim_69 (by decide) (fun c => ?_) (fun c => ?_)
    · have hJ := hJ.1 c
      refine zr_less (L' := [some (.ref 33), some (.int a1), some (.int a2), some (.int a3)]) ⟨rfl, ⟨rfl, ⟨rfl, ⟨rfl, trivial⟩⟩⟩⟩ ?_
      exact s_Model_claim_L74    hJ
    · have hJ := hJ.2 c
      refine zr_less (L' := [some (.ref 33), some (.int a1), some (.int a2), some (.int a3)]) ⟨rfl, ⟨rfl, ⟨rfl, ⟨rfl, trivial⟩⟩⟩⟩ ?_
      exact s_Model_claim_L72    hJ
set_option maxHeartbeats 400000 in
theorem s_Model_claim {g : zk_T} {a1 : Int32} {a2 : Int32} {a3 : Int32} {K : Int32 → zm → Prop} {m : zm} (hJ : j_Model_claim a1 a2 a3 m K) : zq_Mt (zk_g g) y_Model_claim 7 0 0 [.ref 33, .int a1, .int a2, .int a3] (zm_hp m) (zm_QI K) := by
  unfold j_Model_claim at hJ
  refine zq_meth (ini := false) rfl (fun h => by cases h) (Nat.le_of_ble_eq_true rfl) ?_
  refine zr_L (F := ("RiichiTableModel", prog_9_method_53_code, 4, (some .int), false, zq_rm 7 0 0)) (L' := [some (.ref 33), some (.int a1), some (.int a2), some (.int a3)]) rfl ?_
  refine zq_aload_n d_Model_claim_0 rfl rfl ?_
  refine zm_getI fg_Model_90 d_Model_claim_1 zs_Model rfl ?_
  refine zq_iconst (v := 2) d_Model_claim_4 zk_i2 ?_
  refine zq_icmp_ne (tgt := 35) d_Model_claim_5 (by decide) (fun c => ?_) (fun c => ?_)
  · have hJ := hJ.1 c
    refine zr_less (L' := [some (.ref 33), some (.int a1), some (.int a2), some (.int a3)]) ⟨rfl, ⟨rfl, ⟨rfl, ⟨rfl, trivial⟩⟩⟩⟩ ?_
    exact s_Model_claim_L35    hJ
  · have hJ := hJ.2 c
    refine zq_iload_n d_Model_claim_8 rfl rfl ?_
    refine zq_if_lt (tgt := 35) d_Model_claim_9 (by decide) (fun c => ?_) (fun c => ?_)
    · have hJ := hJ.1 c
      refine zr_less (L' := [some (.ref 33), some (.int a1), some (.int a2), some (.int a3)]) ⟨rfl, ⟨rfl, ⟨rfl, ⟨rfl, trivial⟩⟩⟩⟩ ?_
      exact s_Model_claim_L35    hJ
    · have hJ := hJ.2 c
      refine zq_iload_n d_Model_claim_12 rfl rfl ?_
      refine zq_iconst (v := 3) d_Model_claim_13 zk_i3 ?_
      refine zq_icmp_gt (tgt := 35) d_Model_claim_14 (by decide) (fun c => ?_) (fun c => ?_)
      · have hJ := hJ.1 c
        refine zr_less (L' := [some (.ref 33), some (.int a1), some (.int a2), some (.int a3)]) ⟨rfl, ⟨rfl, ⟨rfl, ⟨rfl, trivial⟩⟩⟩⟩ ?_
        exact s_Model_claim_L35    hJ
      · have hJ := hJ.2 c
        refine zq_aload_n d_Model_claim_17 rfl rfl ?_
        refine zm_getR fg_Model_44 d_Model_claim_18 zs_Model rfl ?_
        refine zq_iload_n d_Model_claim_21 rfl rfl ?_
        obtain ⟨hb, hJ⟩ := hJ
        refine zm_ald d_Model_claim_22 (rfl : zm_sh[45]? = some (.inl (0, 4, .inl (fun _ => 0)))) hb ?_
        refine zq_if_eq (tgt := 35) d_Model_claim_23 (by decide) (fun c => ?_) (fun c => ?_)
        · have hJ := hJ.1 c
          refine zr_less (L' := [some (.ref 33), some (.int a1), some (.int a2), some (.int a3)]) ⟨rfl, ⟨rfl, ⟨rfl, ⟨rfl, trivial⟩⟩⟩⟩ ?_
          exact s_Model_claim_L35    hJ
        · have hJ := hJ.2 c
          refine zq_iload_n d_Model_claim_26 rfl rfl ?_
          refine zq_if_lt (tgt := 35) d_Model_claim_27 (by decide) (fun c => ?_) (fun c => ?_)
          · have hJ := hJ.1 c
            refine zr_less (L' := [some (.ref 33), some (.int a1), some (.int a2), some (.int a3)]) ⟨rfl, ⟨rfl, ⟨rfl, ⟨rfl, trivial⟩⟩⟩⟩ ?_
            exact s_Model_claim_L35    hJ
          · have hJ := hJ.2 c
            refine zq_iload_n d_Model_claim_30 rfl rfl ?_
            refine zq_iconst (v := 4) d_Model_claim_31 zk_i4 ?_
            refine zq_icmp_le (tgt := 37) d_Model_claim_32 (by decide) (fun c => ?_) (fun c => ?_)
            · have hJ := hJ.1 c
              refine zq_iload_n d_Model_claim_37 rfl rfl ?_
              refine zq_if_le (tgt := 54) d_Model_claim_38 (by decide) (fun c => ?_) (fun c => ?_)
              · have hJ := hJ.1 c
                refine zr_less (L' := [some (.ref 33), some (.int a1), some (.int a2), some (.int a3)]) ⟨rfl, ⟨rfl, ⟨rfl, ⟨rfl, trivial⟩⟩⟩⟩ ?_
                exact s_Model_claim_L54    hJ
              · have hJ := hJ.2 c
                refine zq_aload_n d_Model_claim_41 rfl rfl ?_
                refine zm_getR fg_Model_44 d_Model_claim_42 zs_Model rfl ?_
                refine zq_iload_n d_Model_claim_45 rfl rfl ?_
                obtain ⟨hb, hJ⟩ := hJ
                refine zm_ald d_Model_claim_46 (rfl : zm_sh[45]? = some (.inl (0, 4, .inl (fun _ => 0)))) hb ?_
                refine zq_iload_n d_Model_claim_47 rfl rfl ?_
                refine zq_ishr d_Model_claim_48 ?_
                refine zq_iconst (v := 1) d_Model_claim_49 zk_i1 ?_
                refine zq_iand d_Model_claim_50 ?_
                refine zq_if_eq (tgt := 72) d_Model_claim_51 (by decide) (fun c => ?_) (fun c => ?_)
                · have hJ := hJ.1 c
                  refine zr_less (L' := [some (.ref 33), some (.int a1), some (.int a2), some (.int a3)]) ⟨rfl, ⟨rfl, ⟨rfl, ⟨rfl, trivial⟩⟩⟩⟩ ?_
                  exact s_Model_claim_L72    hJ
                · have hJ := hJ.2 c
                  refine zr_less (L' := [some (.ref 33), some (.int a1), some (.int a2), some (.int a3)]) ⟨rfl, ⟨rfl, ⟨rfl, ⟨rfl, trivial⟩⟩⟩⟩ ?_
                  exact s_Model_claim_L54    hJ
            · have hJ := hJ.2 c
              refine zr_less (L' := [some (.ref 33), some (.int a1), some (.int a2), some (.int a3)]) ⟨rfl, ⟨rfl, ⟨rfl, ⟨rfl, trivial⟩⟩⟩⟩ ?_
              exact s_Model_claim_L35    hJ
set_option maxHeartbeats 400000 in
theorem s_Model_quad_L52 {g : zk_T} {a1 : Int32} {K : Int32 → zm → Prop} {m : zm} (hJ : j_Model_quad_L52 a1  K  m) : zq_V (zk_g g) ("RiichiTableModel", prog_9_method_63_code, 3, (some .int), false, zq_rm 8 0 0) 0 0 52 [some (.ref 33), some (.int a1), none] [] (zm_hp m) (zm_QI K) := by
  unfold j_Model_quad_L52 at hJ
  refine zq_iconst (v := (-1)) d_Model_quad_52 zk_im1 ?_
  exact zq_iret d_Model_quad_53 rfl rfl (Nat.le_refl _) (Nat.le_refl _) ⟨_, _, rfl, rfl, hJ⟩
set_option maxHeartbeats 400000 in
theorem s_Model_quad_L158 {g : zk_T} {a1 : Int32} {K : Int32 → zm → Prop} {m : zm} (hJ : j_Model_quad_L158 a1  K  m) : zq_V (zk_g g) ("RiichiTableModel", prog_9_method_63_code, 3, (some .int), false, zq_rm 8 0 0) 0 0 158 [some (.ref 33), some (.int a1), none] [] (zm_hp m) (zm_QI K) := by
  unfold j_Model_quad_L158 at hJ
  refine zq_iconst (v := (-1)) d_Model_quad_158 zk_im1 ?_
  exact zq_iret d_Model_quad_159 rfl rfl (Nat.le_refl _) (Nat.le_refl _) ⟨_, _, rfl, rfl, hJ⟩
set_option maxHeartbeats 400000 in
theorem s_Model_quad_L160 {g : zk_T} {a1 : Int32} {K : Int32 → zm → Prop} {m : zm} (hJ : j_Model_quad_L160 a1  K  m) : zq_V (zk_g g) ("RiichiTableModel", prog_9_method_63_code, 3, (some .int), false, zq_rm 8 0 0) 0 0 160 [some (.ref 33), some (.int a1), none] [] (zm_hp m) (zm_QI K) := by
  unfold j_Model_quad_L160 at hJ
  refine zq_aload_n d_Model_quad_160 rfl rfl ?_
  refine zm_getI fg_Model_90 d_Model_quad_161 zs_Model rfl ?_
  exact zq_iret d_Model_quad_164 rfl rfl (Nat.le_refl _) (Nat.le_refl _) ⟨_, _, rfl, rfl, hJ⟩
set_option maxHeartbeats 400000 in
theorem s_Model_quad {g : zk_T} {a1 : Int32} {K : Int32 → zm → Prop} {m : zm} (hJ : j_Model_quad a1 m K) : zq_Mt (zk_g g) y_Model_quad 8 0 0 [.ref 33, .int a1] (zm_hp m) (zm_QI K) := by
  unfold j_Model_quad at hJ
  refine zq_meth (ini := false) rfl (fun h => by cases h) (Nat.le_of_ble_eq_true rfl) ?_
  refine zr_L (F := ("RiichiTableModel", prog_9_method_63_code, 3, (some .int), false, zq_rm 8 0 0)) (L' := [some (.ref 33), some (.int a1), none]) rfl ?_
  refine zq_aload_n d_Model_quad_0 rfl rfl ?_
  refine zr_cvI (q := 33) (as := []) (st := []) d_Model_quad_1 cc_Model_299 cv_Model_isTurn zs_Model (s_Model_isTurn  hJ) rfl ⟨Nat.le_of_ble_eq_true rfl, Nat.le_of_ble_eq_true rfl⟩ (Nat.le_of_ble_eq_true rfl) ⟨Nat.le_refl _, Nat.le_refl _⟩ rfl (fun r2 m1 hJ => ?_)
  refine zq_if_eq (tgt := 52) d_Model_quad_4 (by decide) (fun c => ?_) (fun c => ?_)
  · have hJ := hJ.1 c
    refine zr_less (L' := [some (.ref 33), some (.int a1), none]) ⟨rfl, ⟨rfl, trivial⟩⟩ ?_
    exact s_Model_quad_L52    hJ
  · have hJ := hJ.2 c
    refine zq_iload_n d_Model_quad_7 rfl rfl ?_
    refine zq_if_lt (tgt := 52) d_Model_quad_8 (by decide) (fun c => ?_) (fun c => ?_)
    · have hJ := hJ.1 c
      refine zr_less (L' := [some (.ref 33), some (.int a1), none]) ⟨rfl, ⟨rfl, trivial⟩⟩ ?_
      exact s_Model_quad_L52    hJ
    · have hJ := hJ.2 c
      refine zq_iload_n d_Model_quad_11 rfl rfl ?_
      refine zq_bipush (v := 33) d_Model_quad_12 zk_b33 ?_
      refine zq_icmp_gt (tgt := 52) d_Model_quad_14 (by decide) (fun c => ?_) (fun c => ?_)
      · have hJ := hJ.1 c
        refine zr_less (L' := [some (.ref 33), some (.int a1), none]) ⟨rfl, ⟨rfl, trivial⟩⟩ ?_
        exact s_Model_quad_L52    hJ
      · have hJ := hJ.2 c
        refine zq_aload_n d_Model_quad_17 rfl rfl ?_
        refine zm_getI fg_Model_116 d_Model_quad_18 zs_Model rfl ?_
        refine zq_if_lt (tgt := 52) d_Model_quad_21 (by decide) (fun c => ?_) (fun c => ?_)
        · have hJ := hJ.1 c
          refine zr_less (L' := [some (.ref 33), some (.int a1), none]) ⟨rfl, ⟨rfl, trivial⟩⟩ ?_
          exact s_Model_quad_L52    hJ
        · have hJ := hJ.2 c
          refine zq_aload_n d_Model_quad_24 rfl rfl ?_
          refine zm_getR fg_Model_34 d_Model_quad_25 zs_Model rfl ?_
          refine zq_aload_n d_Model_quad_28 rfl rfl ?_
          refine zm_getI fg_Model_113 d_Model_quad_29 zs_Model rfl ?_
          obtain ⟨hb, hJ⟩ := hJ
          refine zm_ald d_Model_quad_32 (rfl : zm_sh[42]? = some (.inl (0, 4, .inl (fun _ => 0)))) hb ?_
          refine zq_if_gt (tgt := 52) d_Model_quad_33 (by decide) (fun c => ?_) (fun c => ?_)
          · have hJ := hJ.1 c
            refine zr_less (L' := [some (.ref 33), some (.int a1), none]) ⟨rfl, ⟨rfl, trivial⟩⟩ ?_
            exact s_Model_quad_L52    hJ
          · have hJ := hJ.2 c
            refine zq_aload_n d_Model_quad_36 rfl rfl ?_
            refine zm_getI fg_Model_93 d_Model_quad_37 zs_Model rfl ?_
            refine zq_iconst (v := 4) d_Model_quad_40 zk_i4 ?_
            refine zq_icmp_eq (tgt := 52) d_Model_quad_41 (by decide) (fun c => ?_) (fun c => ?_)
            · have hJ := hJ.1 c
              refine zr_less (L' := [some (.ref 33), some (.int a1), none]) ⟨rfl, ⟨rfl, trivial⟩⟩ ?_
              exact s_Model_quad_L52    hJ
            · have hJ := hJ.2 c
              refine zq_aload_n d_Model_quad_44 rfl rfl ?_
              refine zr_cvI (q := 33) (as := []) (st := []) d_Model_quad_45 cc_Model_122 cv_Model_left zs_Model (s_Model_left  hJ) rfl ⟨Nat.le_of_ble_eq_true rfl, Nat.le_of_ble_eq_true rfl⟩ (Nat.le_of_ble_eq_true rfl) ⟨Nat.le_refl _, Nat.le_refl _⟩ rfl (fun r4 m3 hJ => ?_)
              refine zq_iconst (v := 1) d_Model_quad_48 zk_i1 ?_
              refine zq_icmp_ge (tgt := 54) d_Model_quad_49 (by decide) (fun c => ?_) (fun c => ?_)
              · have hJ := hJ.1 c
                refine zq_aload_n d_Model_quad_54 rfl rfl ?_
                refine zm_getR fg_Model_16 d_Model_quad_55 zs_Model rfl ?_
                refine zq_bipush (v := 34) d_Model_quad_58 zk_b34 ?_
                refine zq_aload_n d_Model_quad_60 rfl rfl ?_
                refine zm_getI fg_Model_113 d_Model_quad_61 zs_Model rfl ?_
                refine zq_imul d_Model_quad_64 ?_
                refine zq_iload_n d_Model_quad_65 rfl rfl ?_
                refine zq_iadd d_Model_quad_66 ?_
                obtain ⟨hb, hJ⟩ := hJ
                refine zm_ald d_Model_quad_67 (rfl : zm_sh[36]? = some (.inl (0, 136, .inl (fun _ => 0)))) hb ?_
                refine zr_topi (fun y5 hy5 => ?_)
                have hJ := hJ y5 hy5
                refine zr_istore_n (L' := [some (.ref 33), some (.int a1), some (.int y5)]) d_Model_quad_68 rfl (Nat.le_of_ble_eq_true rfl) rfl ?_
                refine zq_iload_n d_Model_quad_69 rfl rfl ?_
                refine zq_iconst (v := 4) d_Model_quad_70 zk_i4 ?_
                refine zq_icmp_ne (tgt := 110) d_Model_quad_71 (by decide) (fun c => ?_) (fun c => ?_)
                · have hJ := hJ.1 c
                  refine zq_iload_n d_Model_quad_110 rfl rfl ?_
                  refine zq_if_le (tgt := 158) d_Model_quad_111 (by decide) (fun c => ?_) (fun c => ?_)
                  · have hJ := hJ.1 c
                    refine zr_less (L' := [some (.ref 33), some (.int a1), none]) ⟨rfl, ⟨rfl, trivial⟩⟩ ?_
                    exact s_Model_quad_L158    hJ
                  · have hJ := hJ.2 c
                    refine zq_aload_n d_Model_quad_114 rfl rfl ?_
                    refine zq_aload_n d_Model_quad_115 rfl rfl ?_
                    refine zm_getI fg_Model_113 d_Model_quad_116 zs_Model rfl ?_
                    refine zq_iload_n d_Model_quad_119 rfl rfl ?_
                    refine zr_cvI (q := 33) (as := [.int (m3.1 33 4), .int a1]) (st := []) d_Model_quad_120 cc_Model_359 cv_Model_tripletPlace zs_Model (s_Model_tripletPlace  hJ) rfl ⟨Nat.le_of_ble_eq_true rfl, Nat.le_of_ble_eq_true rfl⟩ (Nat.le_of_ble_eq_true rfl) ⟨Nat.le_refl _, Nat.le_refl _⟩ rfl (fun r7 m6 hJ => ?_)
                    refine zq_if_lt (tgt := 158) d_Model_quad_123 (by decide) (fun c => ?_) (fun c => ?_)
                    · have hJ := hJ.1 c
                      refine zr_less (L' := [some (.ref 33), some (.int a1), none]) ⟨rfl, ⟨rfl, trivial⟩⟩ ?_
                      exact s_Model_quad_L158    hJ
                    · have hJ := hJ.2 c
                      refine zq_aload_n d_Model_quad_126 rfl rfl ?_
                      refine zm_getR fg_Model_16 d_Model_quad_127 zs_Model rfl ?_
                      refine zq_bipush (v := 34) d_Model_quad_130 zk_b34 ?_
                      refine zq_aload_n d_Model_quad_132 rfl rfl ?_
                      refine zm_getI fg_Model_113 d_Model_quad_133 zs_Model rfl ?_
                      refine zq_imul d_Model_quad_136 ?_
                      refine zq_iload_n d_Model_quad_137 rfl rfl ?_
                      refine zq_iadd d_Model_quad_138 ?_
                      refine zq_dup2 d_Model_quad_139 rfl rfl ?_
                      obtain ⟨hb, hJ⟩ := hJ
                      refine zm_ald d_Model_quad_140 (rfl : zm_sh[36]? = some (.inl (0, 136, .inl (fun _ => 0)))) hb ?_
                      refine zq_iconst (v := 1) d_Model_quad_141 zk_i1 ?_
                      refine zq_isub d_Model_quad_142 ?_
                      obtain ⟨hb, hJ⟩ := hJ
                      refine zr_ast d_Model_quad_143 (rfl : zm_sh[36]? = some (.inl (0, 136, .inl (fun _ => 0)))) hb (fun m8 hm8 => ?_)
                      have hJ := hJ m8 hm8
                      refine zq_aload_n d_Model_quad_144 rfl rfl ?_
                      refine zq_iconst (v := (-1)) d_Model_quad_145 zk_im1 ?_
                      refine zr_putI fl_Model_116 d_Model_quad_146 zs_Model rfl rfl (fun m9 hm9 => ?_)
                      have hJ := hJ m9 hm9
                      refine zq_aload_n d_Model_quad_149 rfl rfl ?_
                      refine zq_iload_n d_Model_quad_150 rfl rfl ?_
                      refine zq_iconst (v := 1) d_Model_quad_151 zk_i1 ?_
                      refine zr_cvV (q := 33) (as := [.int a1, .int 1]) (st := []) d_Model_quad_152 cc_Model_302 cv_Model_ask zs_Model (s_Model_ask  hJ) rfl ⟨Nat.le_of_ble_eq_true rfl, Nat.le_of_ble_eq_true rfl⟩ (Nat.le_of_ble_eq_true rfl) ⟨Nat.le_refl _, Nat.le_refl _⟩ rfl (fun m10 hJ => ?_)
                      refine zq_goto (tgt := 160) d_Model_quad_155 (by decide) ?_
                      refine zr_less (L' := [some (.ref 33), some (.int a1), none]) ⟨rfl, ⟨rfl, trivial⟩⟩ ?_
                      exact s_Model_quad_L160    hJ
                · have hJ := hJ.2 c
                  refine zq_aload_n d_Model_quad_74 rfl rfl ?_
                  refine zm_getR fg_Model_16 d_Model_quad_75 zs_Model rfl ?_
                  refine zq_bipush (v := 34) d_Model_quad_78 zk_b34 ?_
                  refine zq_aload_n d_Model_quad_80 rfl rfl ?_
                  refine zm_getI fg_Model_113 d_Model_quad_81 zs_Model rfl ?_
                  refine zq_imul d_Model_quad_84 ?_
                  refine zq_iload_n d_Model_quad_85 rfl rfl ?_
                  refine zq_iadd d_Model_quad_86 ?_
                  refine zq_iconst (v := 0) d_Model_quad_87 zk_i0 ?_
                  obtain ⟨hb, hJ⟩ := hJ
                  refine zr_ast d_Model_quad_88 (rfl : zm_sh[36]? = some (.inl (0, 136, .inl (fun _ => 0)))) hb (fun m11 hm11 => ?_)
                  have hJ := hJ m11 hm11
                  refine zq_aload_n d_Model_quad_89 rfl rfl ?_
                  refine zq_aload_n d_Model_quad_90 rfl rfl ?_
                  refine zm_getI fg_Model_113 d_Model_quad_91 zs_Model rfl ?_
                  refine zq_iconst (v := 3) d_Model_quad_94 zk_i3 ?_
                  refine zq_iload_n d_Model_quad_95 rfl rfl ?_
                  refine zr_cvV (q := 33) (as := [.int (m11.1 33 4), .int 3, .int a1]) (st := []) d_Model_quad_96 cc_Model_349 cv_Model_lay zs_Model (s_Model_lay  hJ) rfl ⟨Nat.le_of_ble_eq_true rfl, Nat.le_of_ble_eq_true rfl⟩ (Nat.le_of_ble_eq_true rfl) ⟨Nat.le_refl _, Nat.le_refl _⟩ rfl (fun m12 hJ => ?_)
                  refine zq_aload_n d_Model_quad_99 rfl rfl ?_
                  refine zq_aload_n d_Model_quad_100 rfl rfl ?_
                  refine zm_getI fg_Model_113 d_Model_quad_101 zs_Model rfl ?_
                  refine zr_cvV (q := 33) (as := [.int (m12.1 33 4)]) (st := []) d_Model_quad_104 cc_Model_356 cv_Model_completeQuad zs_Model (s_Model_completeQuad  hJ) rfl ⟨Nat.le_of_ble_eq_true rfl, Nat.le_of_ble_eq_true rfl⟩ (Nat.le_of_ble_eq_true rfl) ⟨Nat.le_refl _, Nat.le_refl _⟩ rfl (fun m13 hJ => ?_)
                  refine zq_goto (tgt := 160) d_Model_quad_107 (by decide) ?_
                  refine zr_less (L' := [some (.ref 33), some (.int a1), none]) ⟨rfl, ⟨rfl, trivial⟩⟩ ?_
                  exact s_Model_quad_L160    hJ
              · have hJ := hJ.2 c
                refine zr_less (L' := [some (.ref 33), some (.int a1), none]) ⟨rfl, ⟨rfl, trivial⟩⟩ ?_
                exact s_Model_quad_L52    hJ
set_option maxHeartbeats 400000 in
theorem s_Model_win_L31 {g : zk_T} {K : Int32 → zm → Prop} {m : zm} (hJ : j_Model_win_L31   K  m) : zq_V (zk_g g) ("RiichiTableModel", prog_9_method_66_code, 4, (some .int), false, zq_rm 5 0 0) 0 0 31 [some (.ref 33), none, none, none] [] (zm_hp m) (zm_QI K) := by
  unfold j_Model_win_L31 at hJ
  refine zq_iconst (v := (-1)) d_Model_win_31 zk_im1 ?_
  exact zq_iret d_Model_win_32 rfl rfl (Nat.le_refl _) (Nat.le_refl _) ⟨_, _, rfl, rfl, hJ⟩
set_option maxHeartbeats 400000 in
theorem s_Model_win_L115 {g : zk_T} {R44 : Int32 → Int32 → zm → Prop} {K : Int32 → zm → Prop} (hR44 : ∀ {x1 : Int32} {x2 : Int32} {m : zm}, R44 x1 x2 m → zq_V (zk_g g) ("RiichiTableModel", prog_9_method_66_code, 4, (some .int), false, zq_rm 5 0 0) 0 0 44 [some (.ref 33), some (.int x1), some (.int x2), none] [] (zm_hp m) (zm_QI K)) {x1 : Int32} {x2 : Int32} {m : zm} (hJ : j_Model_win_L115  R44 K x1 x2 m) : zq_V (zk_g g) ("RiichiTableModel", prog_9_method_66_code, 4, (some .int), false, zq_rm 5 0 0) 0 0 115 [some (.ref 33), some (.int x1), some (.int x2), none] [] (zm_hp m) (zm_QI K) := by
  unfold j_Model_win_L115 at hJ
  refine zr_iinc (d' := 1) d_Model_win_115 zk_i1 rfl (Nat.le_of_ble_eq_true rfl) (fun y13 hy13 => ?_)
  have hJ := hJ y13 hy13
  refine zr_L (L' := [some (.ref 33), some (.int x1), some (.int y13), none]) rfl ?_
  refine zq_goto (tgt := 44) d_Model_win_118 (by decide) ?_
  refine zr_less (L' := [some (.ref 33), some (.int x1), some (.int y13), none]) ⟨rfl, ⟨rfl, ⟨rfl, trivial⟩⟩⟩ ?_
  exact hR44  hJ
set_option maxHeartbeats 400000 in
theorem s_Model_win_L89 {g : zk_T} {R44 : Int32 → Int32 → zm → Prop} {K : Int32 → zm → Prop} (hR44 : ∀ {x1 : Int32} {x2 : Int32} {m : zm}, R44 x1 x2 m → zq_V (zk_g g) ("RiichiTableModel", prog_9_method_66_code, 4, (some .int), false, zq_rm 5 0 0) 0 0 44 [some (.ref 33), some (.int x1), some (.int x2), none] [] (zm_hp m) (zm_QI K)) {x1 : Int32} {x2 : Int32} {t0 : Int32} {m : zm} (hJ : j_Model_win_L89  R44 K x1 x2 t0 m) : zq_V (zk_g g) ("RiichiTableModel", prog_9_method_66_code, 4, (some .int), false, zq_rm 5 0 0) 0 0 89 [some (.ref 33), some (.int x1), some (.int x2), none] [.int t0] (zm_hp m) (zm_QI K) := by
  unfold j_Model_win_L89 at hJ
  refine zr_csI (as := [.int t0]) (st := []) d_Model_win_89 cc_Model_362 cs_Model_rounded (s_Model_rounded  hJ) rfl ⟨Nat.le_of_ble_eq_true rfl, Nat.le_of_ble_eq_true rfl⟩ (Nat.le_of_ble_eq_true rfl) ⟨Nat.le_refl _, Nat.le_refl _⟩ rfl (fun r9 m8 hJ => ?_)
  refine zq_bipush (v := 100) d_Model_win_92 zk_b100 ?_
  refine zq_aload_n d_Model_win_94 rfl rfl ?_
  refine zm_getI fg_Model_365 d_Model_win_95 zs_Model rfl ?_
  refine zq_imul d_Model_win_98 ?_
  refine zq_iadd d_Model_win_99 ?_
  refine zr_topi (fun y10 hy10 => ?_)
  have hJ := hJ y10 hy10
  refine zr_istore_n (L' := [some (.ref 33), some (.int x1), some (.int x2), some (.int y10)]) d_Model_win_100 rfl (Nat.le_of_ble_eq_true rfl) rfl ?_
  refine zq_aload_n d_Model_win_101 rfl rfl ?_
  refine zm_getR fg_Model_13 d_Model_win_102 zs_Model rfl ?_
  refine zq_iload_n d_Model_win_105 rfl rfl ?_
  refine zq_dup2 d_Model_win_106 rfl rfl ?_
  obtain ⟨hb, hJ⟩ := hJ
  refine zm_ald d_Model_win_107 (rfl : zm_sh[35]? = some (.inl (0, 4, .inl (fun _ => 0)))) hb ?_
  refine zq_iload_n d_Model_win_108 rfl rfl ?_
  refine zq_isub d_Model_win_109 ?_
  obtain ⟨hb, hJ⟩ := hJ
  refine zr_ast d_Model_win_110 (rfl : zm_sh[35]? = some (.inl (0, 4, .inl (fun _ => 0)))) hb (fun m11 hm11 => ?_)
  have hJ := hJ m11 hm11
  refine zq_iload_n d_Model_win_111 rfl rfl ?_
  refine zq_iload_n d_Model_win_112 rfl rfl ?_
  refine zq_iadd d_Model_win_113 ?_
  refine zr_topi (fun y12 hy12 => ?_)
  have hJ := hJ y12 hy12
  refine zr_istore_n (L' := [some (.ref 33), some (.int y12), some (.int x2), some (.int y10)]) d_Model_win_114 rfl (Nat.le_of_ble_eq_true rfl) rfl ?_
  refine zr_less (L' := [some (.ref 33), some (.int y12), some (.int x2), none]) ⟨rfl, ⟨rfl, ⟨rfl, trivial⟩⟩⟩ ?_
  exact s_Model_win_L115  hR44  hJ
set_option maxHeartbeats 400000 in
theorem s_Model_win_L76 {g : zk_T} {R44 : Int32 → Int32 → zm → Prop} {K : Int32 → zm → Prop} (hR44 : ∀ {x1 : Int32} {x2 : Int32} {m : zm}, R44 x1 x2 m → zq_V (zk_g g) ("RiichiTableModel", prog_9_method_66_code, 4, (some .int), false, zq_rm 5 0 0) 0 0 44 [some (.ref 33), some (.int x1), some (.int x2), none] [] (zm_hp m) (zm_QI K)) {x1 : Int32} {x2 : Int32} {m : zm} (hJ : j_Model_win_L76  R44 K x1 x2 m) : zq_V (zk_g g) ("RiichiTableModel", prog_9_method_66_code, 4, (some .int), false, zq_rm 5 0 0) 0 0 76 [some (.ref 33), some (.int x1), some (.int x2), none] [] (zm_hp m) (zm_QI K) := by
  unfold j_Model_win_L76 at hJ
  refine zq_iconst (v := 2) d_Model_win_76 zk_i2 ?_
  refine zq_aload_n d_Model_win_77 rfl rfl ?_
  refine zm_getI fg_Model_257 d_Model_win_78 zs_Model rfl ?_
  refine zq_imul d_Model_win_81 ?_
  refine zq_goto (tgt := 89) d_Model_win_82 (by decide) ?_
  refine zr_less (L' := [some (.ref 33), some (.int x1), some (.int x2), none]) ⟨rfl, ⟨rfl, ⟨rfl, trivial⟩⟩⟩ ?_
  exact s_Model_win_L89  hR44  hJ
set_option maxHeartbeats 400000 in
theorem s_Model_win_L168 {g : zk_T} {K : Int32 → zm → Prop} {t0 : Int32} {t1 : Int32} {m : zm} (hJ : j_Model_win_L168   K t0 t1 m) : zq_V (zk_g g) ("RiichiTableModel", prog_9_method_66_code, 4, (some .int), false, zq_rm 5 0 0) 0 0 168 [some (.ref 33), none, none, none] [.int t0, .int t1, .ref 33] (zm_hp m) (zm_QI K) := by
  unfold j_Model_win_L168 at hJ
  refine zr_cvV (q := 33) (as := [.int t1, .int t0]) (st := []) d_Model_win_168 cc_Model_371 cv_Model_end zs_Model (s_Model_end  hJ) rfl ⟨Nat.le_of_ble_eq_true rfl, Nat.le_of_ble_eq_true rfl⟩ (Nat.le_of_ble_eq_true rfl) ⟨Nat.le_refl _, Nat.le_refl _⟩ rfl (fun m14 hJ => ?_)
  refine zq_aload_n d_Model_win_171 rfl rfl ?_
  refine zm_getI fg_Model_260 d_Model_win_172 zs_Model rfl ?_
  exact zq_iret d_Model_win_175 rfl rfl (Nat.le_refl _) (Nat.le_refl _) ⟨_, _, rfl, rfl, hJ⟩
set_option maxHeartbeats 400000 in
theorem s_Model_win_L152 {g : zk_T} {K : Int32 → zm → Prop} {t0 : Int32} {m : zm} (hJ : j_Model_win_L152   K t0 m) : zq_V (zk_g g) ("RiichiTableModel", prog_9_method_66_code, 4, (some .int), false, zq_rm 5 0 0) 0 0 152 [some (.ref 33), none, none, none] [.int t0, .ref 33] (zm_hp m) (zm_QI K) := by
  unfold j_Model_win_L152 at hJ
  refine zq_aload_n d_Model_win_152 rfl rfl ?_
  refine zm_getI fg_Model_113 d_Model_win_153 zs_Model rfl ?_
  refine zq_aload_n d_Model_win_156 rfl rfl ?_
  refine zm_getI fg_Model_96 d_Model_win_157 zs_Model rfl ?_
  refine zq_icmp_ne (tgt := 167) d_Model_win_160 (by decide) (fun c => ?_) (fun c => ?_)
  · have hJ := hJ.1 c
    refine zq_iconst (v := 0) d_Model_win_167 zk_i0 ?_
    refine zr_less (L' := [some (.ref 33), none, none, none]) ⟨rfl, trivial⟩ ?_
    exact s_Model_win_L168    hJ
  · have hJ := hJ.2 c
    refine zq_iconst (v := 1) d_Model_win_163 zk_i1 ?_
    refine zq_goto (tgt := 168) d_Model_win_164 (by decide) ?_
    refine zr_less (L' := [some (.ref 33), none, none, none]) ⟨rfl, trivial⟩ ?_
    exact s_Model_win_L168    hJ
set_option maxHeartbeats 400000 in
theorem s_Model_win_L44 {g : zk_T} {K : Int32 → zm → Prop} : ∀ (n : Nat) {x1 : Int32} {x2 : Int32} {m : zm}, j_Model_win_L44   K n x1 x2 m → zq_V (zk_g g) ("RiichiTableModel", prog_9_method_66_code, 4, (some .int), false, zq_rm 5 0 0) 0 0 44 [some (.ref 33), some (.int x1), some (.int x2), none] [] (zm_hp m) (zm_QI K) := by
  intro n
  induction n with
  | zero =>
    intro x1 x2 m hJ
    exact False.elim hJ
  | succ n ih =>
    intro x1 x2 m hJ
    rw [j_Model_win_L44] at hJ
    refine zq_iload_n d_Model_win_44 rfl rfl ?_
    refine zq_iconst (v := 4) d_Model_win_45 zk_i4 ?_
    refine zq_icmp_ge (tgt := 121) d_Model_win_46 (by decide) (fun c => ?_) (fun c => ?_)
    · have hJ := hJ.1 c
      refine zq_aload_n d_Model_win_121 rfl rfl ?_
      refine zq_iconst (v := 0) d_Model_win_122 zk_i0 ?_
      refine zr_putI fl_Model_346 d_Model_win_123 zs_Model rfl rfl (fun m6 hm6 => ?_)
      have hJ := hJ m6 hm6
      refine zq_aload_n d_Model_win_126 rfl rfl ?_
      refine zq_aload_n d_Model_win_127 rfl rfl ?_
      refine zm_getI fg_Model_113 d_Model_win_128 zs_Model rfl ?_
      refine zq_iload_n d_Model_win_131 rfl rfl ?_
      refine zr_cvV (q := 33) (as := [.int (m6.1 33 4), .int x1]) (st := []) d_Model_win_132 cc_Model_368 cv_Model_keep zs_Model (s_Model_keep  hJ) rfl ⟨Nat.le_of_ble_eq_true rfl, Nat.le_of_ble_eq_true rfl⟩ (Nat.le_of_ble_eq_true rfl) ⟨Nat.le_refl _, Nat.le_refl _⟩ rfl (fun m7 hJ => ?_)
      refine zq_aload_n d_Model_win_135 rfl rfl ?_
      refine zq_aload_n d_Model_win_136 rfl rfl ?_
      refine zm_getI fg_Model_113 d_Model_win_137 zs_Model rfl ?_
      refine zq_aload_n d_Model_win_140 rfl rfl ?_
      refine zm_getI fg_Model_96 d_Model_win_141 zs_Model rfl ?_
      refine zq_icmp_ne (tgt := 151) d_Model_win_144 (by decide) (fun c => ?_) (fun c => ?_)
      · have hJ := hJ.1 c
        refine zq_iconst (v := 0) d_Model_win_151 zk_i0 ?_
        refine zr_less (L' := [some (.ref 33), none, none, none]) ⟨rfl, trivial⟩ ?_
        exact s_Model_win_L152    hJ
      · have hJ := hJ.2 c
        refine zq_iconst (v := 1) d_Model_win_147 zk_i1 ?_
        refine zq_goto (tgt := 152) d_Model_win_148 (by decide) ?_
        refine zr_less (L' := [some (.ref 33), none, none, none]) ⟨rfl, trivial⟩ ?_
        exact s_Model_win_L152    hJ
    · have hJ := hJ.2 c
      refine zq_iload_n d_Model_win_49 rfl rfl ?_
      refine zq_aload_n d_Model_win_50 rfl rfl ?_
      refine zm_getI fg_Model_113 d_Model_win_51 zs_Model rfl ?_
      refine zq_icmp_eq (tgt := 115) d_Model_win_54 (by decide) (fun c => ?_) (fun c => ?_)
      · have hJ := hJ.1 c
        refine zr_less (L' := [some (.ref 33), some (.int x1), some (.int x2), none]) ⟨rfl, ⟨rfl, ⟨rfl, trivial⟩⟩⟩ ?_
        exact s_Model_win_L115  ih  hJ
      · have hJ := hJ.2 c
        refine zq_aload_n d_Model_win_57 rfl rfl ?_
        refine zm_getI fg_Model_113 d_Model_win_58 zs_Model rfl ?_
        refine zq_aload_n d_Model_win_61 rfl rfl ?_
        refine zm_getI fg_Model_96 d_Model_win_62 zs_Model rfl ?_
        refine zq_icmp_eq (tgt := 76) d_Model_win_65 (by decide) (fun c => ?_) (fun c => ?_)
        · have hJ := hJ.1 c
          refine zr_less (L' := [some (.ref 33), some (.int x1), some (.int x2), none]) ⟨rfl, ⟨rfl, ⟨rfl, trivial⟩⟩⟩ ?_
          exact s_Model_win_L76  ih  hJ
        · have hJ := hJ.2 c
          refine zq_iload_n d_Model_win_68 rfl rfl ?_
          refine zq_aload_n d_Model_win_69 rfl rfl ?_
          refine zm_getI fg_Model_96 d_Model_win_70 zs_Model rfl ?_
          refine zq_icmp_ne (tgt := 85) d_Model_win_73 (by decide) (fun c => ?_) (fun c => ?_)
          · have hJ := hJ.1 c
            refine zq_aload_n d_Model_win_85 rfl rfl ?_
            refine zm_getI fg_Model_257 d_Model_win_86 zs_Model rfl ?_
            refine zr_less (L' := [some (.ref 33), some (.int x1), some (.int x2), none]) ⟨rfl, ⟨rfl, ⟨rfl, trivial⟩⟩⟩ ?_
            exact s_Model_win_L89  ih  hJ
          · have hJ := hJ.2 c
            refine zr_less (L' := [some (.ref 33), some (.int x1), some (.int x2), none]) ⟨rfl, ⟨rfl, ⟨rfl, trivial⟩⟩⟩ ?_
            exact s_Model_win_L76  ih  hJ
set_option maxHeartbeats 400000 in
theorem s_Model_win {g : zk_T} {K : Int32 → zm → Prop} {m : zm} (hJ : j_Model_win  m K) : zq_Mt (zk_g g) y_Model_win 5 0 0 [.ref 33] (zm_hp m) (zm_QI K) := by
  unfold j_Model_win at hJ
  refine zq_meth (ini := false) rfl (fun h => by cases h) (Nat.le_of_ble_eq_true rfl) ?_
  refine zr_L (F := ("RiichiTableModel", prog_9_method_66_code, 4, (some .int), false, zq_rm 5 0 0)) (L' := [some (.ref 33), none, none, none]) rfl ?_
  refine zq_aload_n d_Model_win_0 rfl rfl ?_
  refine zr_cvI (q := 33) (as := []) (st := []) d_Model_win_1 cc_Model_299 cv_Model_isTurn zs_Model (s_Model_isTurn  hJ) rfl ⟨Nat.le_of_ble_eq_true rfl, Nat.le_of_ble_eq_true rfl⟩ (Nat.le_of_ble_eq_true rfl) ⟨Nat.le_refl _, Nat.le_refl _⟩ rfl (fun r2 m1 hJ => ?_)
  refine zq_if_eq (tgt := 31) d_Model_win_4 (by decide) (fun c => ?_) (fun c => ?_)
  · have hJ := hJ.1 c
    refine zr_less (L' := [some (.ref 33), none, none, none]) ⟨rfl, trivial⟩ ?_
    exact s_Model_win_L31    hJ
  · have hJ := hJ.2 c
    refine zq_aload_n d_Model_win_7 rfl rfl ?_
    refine zm_getI fg_Model_116 d_Model_win_8 zs_Model rfl ?_
    refine zq_if_lt (tgt := 31) d_Model_win_11 (by decide) (fun c => ?_) (fun c => ?_)
    · have hJ := hJ.1 c
      refine zr_less (L' := [some (.ref 33), none, none, none]) ⟨rfl, trivial⟩ ?_
      exact s_Model_win_L31    hJ
    · have hJ := hJ.2 c
      refine zq_aload_n d_Model_win_14 rfl rfl ?_
      refine zq_aload_n d_Model_win_15 rfl rfl ?_
      refine zm_getI fg_Model_113 d_Model_win_16 zs_Model rfl ?_
      refine zq_aload_n d_Model_win_19 rfl rfl ?_
      refine zm_getI fg_Model_116 d_Model_win_20 zs_Model rfl ?_
      refine zq_iconst (v := 1) d_Model_win_23 zk_i1 ?_
      refine zq_iconst (v := 0) d_Model_win_24 zk_i0 ?_
      refine zr_cvI (q := 33) (as := [.int (m1.1 33 4), .int (m1.1 33 18), .int 1, .int 0]) (st := []) d_Model_win_25 cc_Model_315 cv_Model_worthy zs_Model (s_Model_worthy  hJ) rfl ⟨Nat.le_of_ble_eq_true rfl, Nat.le_of_ble_eq_true rfl⟩ (Nat.le_of_ble_eq_true rfl) ⟨Nat.le_refl _, Nat.le_refl _⟩ rfl (fun r4 m3 hJ => ?_)
      refine zq_if_ne (tgt := 33) d_Model_win_28 (by decide) (fun c => ?_) (fun c => ?_)
      · have hJ := hJ.1 c
        refine zq_sipush (v := 1000) d_Model_win_33 zk_s1000 ?_
        refine zq_aload_n d_Model_win_36 rfl rfl ?_
        refine zm_getI fg_Model_346 d_Model_win_37 zs_Model rfl ?_
        refine zq_imul d_Model_win_40 ?_
        refine zr_topi (fun y5 hy5 => ?_)
        have hJ := hJ y5 hy5
        refine zr_istore_n (L' := [some (.ref 33), some (.int y5), none, none]) d_Model_win_41 rfl (Nat.le_of_ble_eq_true rfl) rfl ?_
        refine zq_iconst (v := 0) d_Model_win_42 zk_i0 ?_
        refine zr_istore_n (L' := [some (.ref 33), some (.int y5), some (.int 0), none]) d_Model_win_43 rfl (Nat.le_of_ble_eq_true rfl) rfl ?_
        refine zr_less (L' := [some (.ref 33), some (.int y5), some (.int 0), none]) ⟨rfl, ⟨rfl, ⟨rfl, trivial⟩⟩⟩ ?_
        obtain ⟨n44, hJ⟩ := hJ
        exact s_Model_win_L44   n44  hJ
      · have hJ := hJ.2 c
        refine zr_less (L' := [some (.ref 33), none, none, none]) ⟨rfl, trivial⟩ ?_
        exact s_Model_win_L31    hJ
set_option maxHeartbeats 400000 in
theorem s_Model_next {g : zk_T} {K : Int32 → zm → Prop} {m : zm} (hJ : j_Model_next  m K) : zq_Mt (zk_g g) y_Model_next 2 0 0 [.ref 33] (zm_hp m) (zm_QI K) := by
  unfold j_Model_next at hJ
  refine zq_meth (ini := false) rfl (fun h => by cases h) (Nat.le_of_ble_eq_true rfl) ?_
  refine zr_L (F := ("RiichiTableModel", prog_9_method_70_code, 1, (some .boolean), false, zq_rm 2 0 0)) (L' := [some (.ref 33)]) rfl ?_
  refine zq_aload_n d_Model_next_0 rfl rfl ?_
  refine zm_getI fg_Model_90 d_Model_next_1 zs_Model rfl ?_
  refine zq_iconst (v := 3) d_Model_next_4 zk_i3 ?_
  refine zq_icmp_eq (tgt := 10) d_Model_next_5 (by decide) (fun c => ?_) (fun c => ?_)
  · have hJ := hJ.1 c
    refine zq_aload_n d_Model_next_10 rfl rfl ?_
    refine zr_cvV (q := 33) (as := []) (st := []) d_Model_next_11 cc_Model_82 cv_Model_shuffle zs_Model (s_Model_shuffle  hJ) rfl ⟨Nat.le_of_ble_eq_true rfl, Nat.le_of_ble_eq_true rfl⟩ (Nat.le_of_ble_eq_true rfl) ⟨Nat.le_refl _, Nat.le_refl _⟩ rfl (fun m1 hJ => ?_)
    refine zq_iconst (v := 1) d_Model_next_14 zk_i1 ?_
    exact zq_iret d_Model_next_15 rfl (zm_isB.nar (Or.inr rfl)) (Nat.le_refl _) (Nat.le_refl _) ⟨_, _, rfl, rfl, hJ⟩
  · have hJ := hJ.2 c
    refine zq_iconst (v := 0) d_Model_next_8 zk_i0 ?_
    exact zq_iret d_Model_next_9 rfl (zm_isB.nar (Or.inl rfl)) (Nat.le_refl _) (Nat.le_refl _) ⟨_, _, rfl, rfl, hJ⟩
set_option maxHeartbeats 400000 in
theorem s_Model_shows_L30 {g : zk_T} {a1 : Int32} {K : Int32 → zm → Prop} {t0 : Int32} {m : zm} (hJ : j_Model_shows_L30 a1  K t0 m) : zq_V (zk_g g) ("RiichiTableModel", prog_9_method_71_code, 2, (some .boolean), false, zq_rm 0 0 0) 0 0 30 [some (.ref 33), some (.int a1)] [.int t0] (zm_hp m) (zm_QI K) := by
  unfold j_Model_shows_L30 at hJ
  exact zq_iret d_Model_shows_30 rfl hJ.1.nar (Nat.le_refl _) (Nat.le_refl _) ⟨_, _, rfl, rfl, hJ.2⟩
set_option maxHeartbeats 400000 in
theorem s_Model_shows_L29 {g : zk_T} {a1 : Int32} {K : Int32 → zm → Prop} {m : zm} (hJ : j_Model_shows_L29 a1  K  m) : zq_V (zk_g g) ("RiichiTableModel", prog_9_method_71_code, 2, (some .boolean), false, zq_rm 0 0 0) 0 0 29 [some (.ref 33), some (.int a1)] [] (zm_hp m) (zm_QI K) := by
  unfold j_Model_shows_L29 at hJ
  refine zq_iconst (v := 0) d_Model_shows_29 zk_i0 ?_
  refine zr_less (L' := [some (.ref 33), some (.int a1)]) ⟨rfl, ⟨rfl, trivial⟩⟩ ?_
  exact s_Model_shows_L30    hJ
set_option maxHeartbeats 400000 in
theorem s_Model_shows {g : zk_T} {a1 : Int32} {K : Int32 → zm → Prop} {m : zm} (hJ : j_Model_shows a1 m K) : zq_Mt (zk_g g) y_Model_shows 0 0 0 [.ref 33, .int a1] (zm_hp m) (zm_QI K) := by
  unfold j_Model_shows at hJ
  refine zq_meth (ini := false) rfl (fun h => by cases h) (Nat.le_of_ble_eq_true rfl) ?_
  refine zr_L (F := ("RiichiTableModel", prog_9_method_71_code, 2, (some .boolean), false, zq_rm 0 0 0)) (L' := [some (.ref 33), some (.int a1)]) rfl ?_
  refine zq_iload_n d_Model_shows_0 rfl rfl ?_
  refine zq_if_lt (tgt := 29) d_Model_shows_1 (by decide) (fun c => ?_) (fun c => ?_)
  · have hJ := hJ.1 c
    refine zr_less (L' := [some (.ref 33), some (.int a1)]) ⟨rfl, ⟨rfl, trivial⟩⟩ ?_
    exact s_Model_shows_L29    hJ
  · have hJ := hJ.2 c
    refine zq_iload_n d_Model_shows_4 rfl rfl ?_
    refine zq_iconst (v := 3) d_Model_shows_5 zk_i3 ?_
    refine zq_icmp_gt (tgt := 29) d_Model_shows_6 (by decide) (fun c => ?_) (fun c => ?_)
    · have hJ := hJ.1 c
      refine zr_less (L' := [some (.ref 33), some (.int a1)]) ⟨rfl, ⟨rfl, trivial⟩⟩ ?_
      exact s_Model_shows_L29    hJ
    · have hJ := hJ.2 c
      refine zq_aload_n d_Model_shows_9 rfl rfl ?_
      refine zm_getI fg_Model_90 d_Model_shows_10 zs_Model rfl ?_
      refine zq_iconst (v := 1) d_Model_shows_13 zk_i1 ?_
      refine zq_icmp_lt (tgt := 29) d_Model_shows_14 (by decide) (fun c => ?_) (fun c => ?_)
      · have hJ := hJ.1 c
        refine zr_less (L' := [some (.ref 33), some (.int a1)]) ⟨rfl, ⟨rfl, trivial⟩⟩ ?_
        exact s_Model_shows_L29    hJ
      · have hJ := hJ.2 c
        refine zq_aload_n d_Model_shows_17 rfl rfl ?_
        refine zm_getI fg_Model_90 d_Model_shows_18 zs_Model rfl ?_
        refine zq_iconst (v := 3) d_Model_shows_21 zk_i3 ?_
        refine zq_icmp_gt (tgt := 29) d_Model_shows_22 (by decide) (fun c => ?_) (fun c => ?_)
        · have hJ := hJ.1 c
          refine zr_less (L' := [some (.ref 33), some (.int a1)]) ⟨rfl, ⟨rfl, trivial⟩⟩ ?_
          exact s_Model_shows_L29    hJ
        · have hJ := hJ.2 c
          refine zq_iconst (v := 1) d_Model_shows_25 zk_i1 ?_
          refine zq_goto (tgt := 30) d_Model_shows_26 (by decide) ?_
          refine zr_less (L' := [some (.ref 33), some (.int a1)]) ⟨rfl, ⟨rfl, trivial⟩⟩ ?_
          exact s_Model_shows_L30    hJ
set_option maxHeartbeats 400000 in
theorem s_Model_phase {g : zk_T} {K : Int32 → zm → Prop} {m : zm} (hJ : j_Model_phase  m K) : zq_Mt (zk_g g) y_Model_phase 0 0 0 [.ref 33] (zm_hp m) (zm_QI K) := by
  unfold j_Model_phase at hJ
  refine zq_meth (ini := false) rfl (fun h => by cases h) (Nat.le_of_ble_eq_true rfl) ?_
  refine zr_L (F := ("RiichiTableModel", prog_9_method_72_code, 1, (some .int), false, zq_rm 0 0 0)) (L' := [some (.ref 33)]) rfl ?_
  refine zq_aload_n d_Model_phase_0 rfl rfl ?_
  refine zm_getI fg_Model_90 d_Model_phase_1 zs_Model rfl ?_
  exact zq_iret d_Model_phase_4 rfl rfl (Nat.le_refl _) (Nat.le_refl _) ⟨_, _, rfl, rfl, hJ⟩
set_option maxHeartbeats 400000 in
theorem s_Model_who_L24 {g : zk_T} {K : Int32 → zm → Prop} {t0 : Int32} {m : zm} (hJ : j_Model_who_L24   K t0 m) : zq_V (zk_g g) ("RiichiTableModel", prog_9_method_73_code, 1, (some .int), false, zq_rm 0 0 0) 0 0 24 [some (.ref 33)] [.int t0] (zm_hp m) (zm_QI K) := by
  unfold j_Model_who_L24 at hJ
  exact zq_iret d_Model_who_24 rfl rfl (Nat.le_refl _) (Nat.le_refl _) ⟨_, _, rfl, rfl, hJ⟩
set_option maxHeartbeats 400000 in
theorem s_Model_who_L16 {g : zk_T} {K : Int32 → zm → Prop} {m : zm} (hJ : j_Model_who_L16   K  m) : zq_V (zk_g g) ("RiichiTableModel", prog_9_method_73_code, 1, (some .int), false, zq_rm 0 0 0) 0 0 16 [some (.ref 33)] [] (zm_hp m) (zm_QI K) := by
  unfold j_Model_who_L16 at hJ
  refine zq_aload_n d_Model_who_16 rfl rfl ?_
  refine zm_getI fg_Model_113 d_Model_who_17 zs_Model rfl ?_
  refine zq_goto (tgt := 24) d_Model_who_20 (by decide) ?_
  refine zr_less (L' := [some (.ref 33)]) ⟨rfl, trivial⟩ ?_
  exact s_Model_who_L24    hJ
set_option maxHeartbeats 400000 in
theorem s_Model_who {g : zk_T} {K : Int32 → zm → Prop} {m : zm} (hJ : j_Model_who  m K) : zq_Mt (zk_g g) y_Model_who 0 0 0 [.ref 33] (zm_hp m) (zm_QI K) := by
  unfold j_Model_who at hJ
  refine zq_meth (ini := false) rfl (fun h => by cases h) (Nat.le_of_ble_eq_true rfl) ?_
  refine zr_L (F := ("RiichiTableModel", prog_9_method_73_code, 1, (some .int), false, zq_rm 0 0 0)) (L' := [some (.ref 33)]) rfl ?_
  refine zq_aload_n d_Model_who_0 rfl rfl ?_
  refine zm_getI fg_Model_90 d_Model_who_1 zs_Model rfl ?_
  refine zq_iconst (v := 1) d_Model_who_4 zk_i1 ?_
  refine zq_icmp_eq (tgt := 16) d_Model_who_5 (by decide) (fun c => ?_) (fun c => ?_)
  · have hJ := hJ.1 c
    refine zr_less (L' := [some (.ref 33)]) ⟨rfl, trivial⟩ ?_
    exact s_Model_who_L16    hJ
  · have hJ := hJ.2 c
    refine zq_aload_n d_Model_who_8 rfl rfl ?_
    refine zm_getI fg_Model_90 d_Model_who_9 zs_Model rfl ?_
    refine zq_iconst (v := 2) d_Model_who_12 zk_i2 ?_
    refine zq_icmp_ne (tgt := 23) d_Model_who_13 (by decide) (fun c => ?_) (fun c => ?_)
    · have hJ := hJ.1 c
      refine zq_iconst (v := (-1)) d_Model_who_23 zk_im1 ?_
      refine zr_less (L' := [some (.ref 33)]) ⟨rfl, trivial⟩ ?_
      exact s_Model_who_L24    hJ
    · have hJ := hJ.2 c
      refine zr_less (L' := [some (.ref 33)]) ⟨rfl, trivial⟩ ?_
      exact s_Model_who_L16    hJ
set_option maxHeartbeats 400000 in
theorem s_Model_drawn_L31 {g : zk_T} {K : Int32 → zm → Prop} {t0 : Int32} {m : zm} (hJ : j_Model_drawn_L31   K t0 m) : zq_V (zk_g g) ("RiichiTableModel", prog_9_method_74_code, 1, (some .int), false, zq_rm 0 0 0) 0 0 31 [some (.ref 33)] [.int t0] (zm_hp m) (zm_QI K) := by
  unfold j_Model_drawn_L31 at hJ
  exact zq_iret d_Model_drawn_31 rfl rfl (Nat.le_refl _) (Nat.le_refl _) ⟨_, _, rfl, rfl, hJ⟩
set_option maxHeartbeats 400000 in
theorem s_Model_drawn {g : zk_T} {K : Int32 → zm → Prop} {m : zm} (hJ : j_Model_drawn  m K) : zq_Mt (zk_g g) y_Model_drawn 0 0 0 [.ref 33] (zm_hp m) (zm_QI K) := by
  unfold j_Model_drawn at hJ
  refine zq_meth (ini := false) rfl (fun h => by cases h) (Nat.le_of_ble_eq_true rfl) ?_
  refine zr_L (F := ("RiichiTableModel", prog_9_method_74_code, 1, (some .int), false, zq_rm 0 0 0)) (L' := [some (.ref 33)]) rfl ?_
  refine zq_aload_n d_Model_drawn_0 rfl rfl ?_
  refine zm_getI fg_Model_90 d_Model_drawn_1 zs_Model rfl ?_
  refine zq_iconst (v := 1) d_Model_drawn_4 zk_i1 ?_
  refine zq_icmp_ne (tgt := 15) d_Model_drawn_5 (by decide) (fun c => ?_) (fun c => ?_)
  · have hJ := hJ.1 c
    refine zq_aload_n d_Model_drawn_15 rfl rfl ?_
    refine zm_getI fg_Model_90 d_Model_drawn_16 zs_Model rfl ?_
    refine zq_iconst (v := 2) d_Model_drawn_19 zk_i2 ?_
    refine zq_icmp_ne (tgt := 30) d_Model_drawn_20 (by decide) (fun c => ?_) (fun c => ?_)
    · have hJ := hJ.1 c
      refine zq_iconst (v := (-1)) d_Model_drawn_30 zk_im1 ?_
      refine zr_less (L' := [some (.ref 33)]) ⟨rfl, trivial⟩ ?_
      exact s_Model_drawn_L31    hJ
    · have hJ := hJ.2 c
      refine zq_aload_n d_Model_drawn_23 rfl rfl ?_
      refine zm_getI fg_Model_309 d_Model_drawn_24 zs_Model rfl ?_
      refine zq_goto (tgt := 31) d_Model_drawn_27 (by decide) ?_
      refine zr_less (L' := [some (.ref 33)]) ⟨rfl, trivial⟩ ?_
      exact s_Model_drawn_L31    hJ
  · have hJ := hJ.2 c
    refine zq_aload_n d_Model_drawn_8 rfl rfl ?_
    refine zm_getI fg_Model_116 d_Model_drawn_9 zs_Model rfl ?_
    refine zq_goto (tgt := 31) d_Model_drawn_12 (by decide) ?_
    refine zr_less (L' := [some (.ref 33)]) ⟨rfl, trivial⟩ ?_
    exact s_Model_drawn_L31    hJ
set_option maxHeartbeats 400000 in
theorem s_Model_concealed_L33 {g : zk_T} {a1 : Int32} {a2 : Int32} {K : Int32 → zm → Prop} {t0 : Int32} {m : zm} (hJ : j_Model_concealed_L33 a1 a2  K t0 m) : zq_V (zk_g g) ("RiichiTableModel", prog_9_method_75_code, 3, (some .int), false, zq_rm 1 0 0) 0 0 33 [some (.ref 33), some (.int a1), some (.int a2)] [.int t0] (zm_hp m) (zm_QI K) := by
  unfold j_Model_concealed_L33 at hJ
  exact zq_iret d_Model_concealed_33 rfl rfl (Nat.le_refl _) (Nat.le_refl _) ⟨_, _, rfl, rfl, hJ⟩
set_option maxHeartbeats 400000 in
theorem s_Model_concealed_L18 {g : zk_T} {a1 : Int32} {a2 : Int32} {K : Int32 → zm → Prop} {m : zm} (hJ : j_Model_concealed_L18 a1 a2  K  m) : zq_V (zk_g g) ("RiichiTableModel", prog_9_method_75_code, 3, (some .int), false, zq_rm 1 0 0) 0 0 18 [some (.ref 33), some (.int a1), some (.int a2)] [] (zm_hp m) (zm_QI K) := by
  unfold j_Model_concealed_L18 at hJ
  refine zq_iconst (v := 0) d_Model_concealed_18 zk_i0 ?_
  refine zq_goto (tgt := 33) d_Model_concealed_19 (by decide) ?_
  refine zr_less (L' := [some (.ref 33), some (.int a1), some (.int a2)]) ⟨rfl, ⟨rfl, ⟨rfl, trivial⟩⟩⟩ ?_
  exact s_Model_concealed_L33    hJ
set_option maxHeartbeats 400000 in
theorem s_Model_concealed {g : zk_T} {a1 : Int32} {a2 : Int32} {K : Int32 → zm → Prop} {m : zm} (hJ : j_Model_concealed a1 a2 m K) : zq_Mt (zk_g g) y_Model_concealed 1 0 0 [.ref 33, .int a1, .int a2] (zm_hp m) (zm_QI K) := by
  unfold j_Model_concealed at hJ
  refine zq_meth (ini := false) rfl (fun h => by cases h) (Nat.le_of_ble_eq_true rfl) ?_
  refine zr_L (F := ("RiichiTableModel", prog_9_method_75_code, 3, (some .int), false, zq_rm 1 0 0)) (L' := [some (.ref 33), some (.int a1), some (.int a2)]) rfl ?_
  refine zq_aload_n d_Model_concealed_0 rfl rfl ?_
  refine zq_iload_n d_Model_concealed_1 rfl rfl ?_
  refine zr_cvI (q := 33) (as := [.int a1]) (st := []) d_Model_concealed_2 cc_Model_375 cv_Model_shows zs_Model (s_Model_shows  hJ) rfl ⟨Nat.le_of_ble_eq_true rfl, Nat.le_of_ble_eq_true rfl⟩ (Nat.le_of_ble_eq_true rfl) ⟨Nat.le_refl _, Nat.le_refl _⟩ rfl (fun r2 m1 hJ => ?_)
  refine zq_if_eq (tgt := 18) d_Model_concealed_5 (by decide) (fun c => ?_) (fun c => ?_)
  · have hJ := hJ.1 c
    refine zr_less (L' := [some (.ref 33), some (.int a1), some (.int a2)]) ⟨rfl, ⟨rfl, ⟨rfl, trivial⟩⟩⟩ ?_
    exact s_Model_concealed_L18    hJ
  · have hJ := hJ.2 c
    refine zq_iload_n d_Model_concealed_8 rfl rfl ?_
    refine zq_if_lt (tgt := 18) d_Model_concealed_9 (by decide) (fun c => ?_) (fun c => ?_)
    · have hJ := hJ.1 c
      refine zr_less (L' := [some (.ref 33), some (.int a1), some (.int a2)]) ⟨rfl, ⟨rfl, ⟨rfl, trivial⟩⟩⟩ ?_
      exact s_Model_concealed_L18    hJ
    · have hJ := hJ.2 c
      refine zq_iload_n d_Model_concealed_12 rfl rfl ?_
      refine zq_bipush (v := 33) d_Model_concealed_13 zk_b33 ?_
      refine zq_icmp_le (tgt := 22) d_Model_concealed_15 (by decide) (fun c => ?_) (fun c => ?_)
      · have hJ := hJ.1 c
        refine zq_aload_n d_Model_concealed_22 rfl rfl ?_
        refine zm_getR fg_Model_16 d_Model_concealed_23 zs_Model rfl ?_
        refine zq_bipush (v := 34) d_Model_concealed_26 zk_b34 ?_
        refine zq_iload_n d_Model_concealed_28 rfl rfl ?_
        refine zq_imul d_Model_concealed_29 ?_
        refine zq_iload_n d_Model_concealed_30 rfl rfl ?_
        refine zq_iadd d_Model_concealed_31 ?_
        obtain ⟨hb, hJ⟩ := hJ
        refine zm_ald d_Model_concealed_32 (rfl : zm_sh[36]? = some (.inl (0, 136, .inl (fun _ => 0)))) hb ?_
        refine zr_less (L' := [some (.ref 33), some (.int a1), some (.int a2)]) ⟨rfl, ⟨rfl, ⟨rfl, trivial⟩⟩⟩ ?_
        exact s_Model_concealed_L33    hJ
      · have hJ := hJ.2 c
        refine zr_less (L' := [some (.ref 33), some (.int a1), some (.int a2)]) ⟨rfl, ⟨rfl, ⟨rfl, trivial⟩⟩⟩ ?_
        exact s_Model_concealed_L18    hJ
set_option maxHeartbeats 400000 in
theorem s_Model_meld_L49 {g : zk_T} {a1 : Int32} {a2 : Int32} {K : Int32 → zm → Prop} {t0 : Int32} {m : zm} (hJ : j_Model_meld_L49 a1 a2  K t0 m) : zq_V (zk_g g) ("RiichiTableModel", prog_9_method_76_code, 3, (some .int), false, zq_rm 1 0 0) 0 0 49 [some (.ref 33), some (.int a1), some (.int a2)] [.int t0] (zm_hp m) (zm_QI K) := by
  unfold j_Model_meld_L49 at hJ
  exact zq_iret d_Model_meld_49 rfl rfl (Nat.le_refl _) (Nat.le_refl _) ⟨_, _, rfl, rfl, hJ⟩
set_option maxHeartbeats 400000 in
theorem s_Model_meld_L22 {g : zk_T} {a1 : Int32} {a2 : Int32} {K : Int32 → zm → Prop} {m : zm} (hJ : j_Model_meld_L22 a1 a2  K  m) : zq_V (zk_g g) ("RiichiTableModel", prog_9_method_76_code, 3, (some .int), false, zq_rm 1 0 0) 0 0 22 [some (.ref 33), some (.int a1), some (.int a2)] [] (zm_hp m) (zm_QI K) := by
  unfold j_Model_meld_L22 at hJ
  refine zq_iconst (v := (-1)) d_Model_meld_22 zk_im1 ?_
  refine zq_goto (tgt := 49) d_Model_meld_23 (by decide) ?_
  refine zr_less (L' := [some (.ref 33), some (.int a1), some (.int a2)]) ⟨rfl, ⟨rfl, ⟨rfl, trivial⟩⟩⟩ ?_
  exact s_Model_meld_L49    hJ
set_option maxHeartbeats 400000 in
theorem s_Model_meld {g : zk_T} {a1 : Int32} {a2 : Int32} {K : Int32 → zm → Prop} {m : zm} (hJ : j_Model_meld a1 a2 m K) : zq_Mt (zk_g g) y_Model_meld 1 0 0 [.ref 33, .int a1, .int a2] (zm_hp m) (zm_QI K) := by
  unfold j_Model_meld at hJ
  refine zq_meth (ini := false) rfl (fun h => by cases h) (Nat.le_of_ble_eq_true rfl) ?_
  refine zr_L (F := ("RiichiTableModel", prog_9_method_76_code, 3, (some .int), false, zq_rm 1 0 0)) (L' := [some (.ref 33), some (.int a1), some (.int a2)]) rfl ?_
  refine zq_aload_n d_Model_meld_0 rfl rfl ?_
  refine zq_iload_n d_Model_meld_1 rfl rfl ?_
  refine zr_cvI (q := 33) (as := [.int a1]) (st := []) d_Model_meld_2 cc_Model_375 cv_Model_shows zs_Model (s_Model_shows  hJ) rfl ⟨Nat.le_of_ble_eq_true rfl, Nat.le_of_ble_eq_true rfl⟩ (Nat.le_of_ble_eq_true rfl) ⟨Nat.le_refl _, Nat.le_refl _⟩ rfl (fun r2 m1 hJ => ?_)
  refine zq_if_eq (tgt := 22) d_Model_meld_5 (by decide) (fun c => ?_) (fun c => ?_)
  · have hJ := hJ.1 c
    refine zr_less (L' := [some (.ref 33), some (.int a1), some (.int a2)]) ⟨rfl, ⟨rfl, ⟨rfl, trivial⟩⟩⟩ ?_
    exact s_Model_meld_L22    hJ
  · have hJ := hJ.2 c
    refine zq_iload_n d_Model_meld_8 rfl rfl ?_
    refine zq_if_lt (tgt := 22) d_Model_meld_9 (by decide) (fun c => ?_) (fun c => ?_)
    · have hJ := hJ.1 c
      refine zr_less (L' := [some (.ref 33), some (.int a1), some (.int a2)]) ⟨rfl, ⟨rfl, ⟨rfl, trivial⟩⟩⟩ ?_
      exact s_Model_meld_L22    hJ
    · have hJ := hJ.2 c
      refine zq_iload_n d_Model_meld_12 rfl rfl ?_
      refine zq_aload_n d_Model_meld_13 rfl rfl ?_
      refine zm_getR fg_Model_19 d_Model_meld_14 zs_Model rfl ?_
      refine zq_iload_n d_Model_meld_17 rfl rfl ?_
      obtain ⟨hb, hJ⟩ := hJ
      refine zm_ald d_Model_meld_18 (rfl : zm_sh[37]? = some (.inl (0, 4, .inl (fun _ => 0)))) hb ?_
      refine zq_icmp_lt (tgt := 26) d_Model_meld_19 (by decide) (fun c => ?_) (fun c => ?_)
      · have hJ := hJ.1 c
        refine zq_iconst (v := 4) d_Model_meld_26 zk_i4 ?_
        refine zq_aload_n d_Model_meld_27 rfl rfl ?_
        refine zm_getR fg_Model_22 d_Model_meld_28 zs_Model rfl ?_
        refine zq_iconst (v := 4) d_Model_meld_31 zk_i4 ?_
        refine zq_iload_n d_Model_meld_32 rfl rfl ?_
        refine zq_imul d_Model_meld_33 ?_
        refine zq_iload_n d_Model_meld_34 rfl rfl ?_
        refine zq_iadd d_Model_meld_35 ?_
        obtain ⟨hb, hJ⟩ := hJ
        refine zm_ald d_Model_meld_36 (rfl : zm_sh[38]? = some (.inl (0, 16, .inl (fun _ => 0)))) hb ?_
        refine zq_imul d_Model_meld_37 ?_
        refine zq_aload_n d_Model_meld_38 rfl rfl ?_
        refine zm_getR fg_Model_25 d_Model_meld_39 zs_Model rfl ?_
        refine zq_iconst (v := 4) d_Model_meld_42 zk_i4 ?_
        refine zq_iload_n d_Model_meld_43 rfl rfl ?_
        refine zq_imul d_Model_meld_44 ?_
        refine zq_iload_n d_Model_meld_45 rfl rfl ?_
        refine zq_iadd d_Model_meld_46 ?_
        obtain ⟨hb, hJ⟩ := hJ
        refine zm_ald d_Model_meld_47 (rfl : zm_sh[39]? = some (.inl (0, 16, .inl (fun _ => 0)))) hb ?_
        refine zq_iadd d_Model_meld_48 ?_
        refine zr_less (L' := [some (.ref 33), some (.int a1), some (.int a2)]) ⟨rfl, ⟨rfl, ⟨rfl, trivial⟩⟩⟩ ?_
        exact s_Model_meld_L49    hJ
      · have hJ := hJ.2 c
        refine zr_less (L' := [some (.ref 33), some (.int a1), some (.int a2)]) ⟨rfl, ⟨rfl, ⟨rfl, trivial⟩⟩⟩ ?_
        exact s_Model_meld_L22    hJ
set_option maxHeartbeats 400000 in
theorem s_Model_river_L37 {g : zk_T} {a1 : Int32} {a2 : Int32} {K : Int32 → zm → Prop} {t0 : Int32} {m : zm} (hJ : j_Model_river_L37 a1 a2  K t0 m) : zq_V (zk_g g) ("RiichiTableModel", prog_9_method_77_code, 3, (some .int), false, zq_rm 1 0 0) 0 0 37 [some (.ref 33), some (.int a1), some (.int a2)] [.int t0] (zm_hp m) (zm_QI K) := by
  unfold j_Model_river_L37 at hJ
  exact zq_iret d_Model_river_37 rfl rfl (Nat.le_refl _) (Nat.le_refl _) ⟨_, _, rfl, rfl, hJ⟩
set_option maxHeartbeats 400000 in
theorem s_Model_river_L22 {g : zk_T} {a1 : Int32} {a2 : Int32} {K : Int32 → zm → Prop} {m : zm} (hJ : j_Model_river_L22 a1 a2  K  m) : zq_V (zk_g g) ("RiichiTableModel", prog_9_method_77_code, 3, (some .int), false, zq_rm 1 0 0) 0 0 22 [some (.ref 33), some (.int a1), some (.int a2)] [] (zm_hp m) (zm_QI K) := by
  unfold j_Model_river_L22 at hJ
  refine zq_iconst (v := (-1)) d_Model_river_22 zk_im1 ?_
  refine zq_goto (tgt := 37) d_Model_river_23 (by decide) ?_
  refine zr_less (L' := [some (.ref 33), some (.int a1), some (.int a2)]) ⟨rfl, ⟨rfl, ⟨rfl, trivial⟩⟩⟩ ?_
  exact s_Model_river_L37    hJ
set_option maxHeartbeats 400000 in
theorem s_Model_river {g : zk_T} {a1 : Int32} {a2 : Int32} {K : Int32 → zm → Prop} {m : zm} (hJ : j_Model_river a1 a2 m K) : zq_Mt (zk_g g) y_Model_river 1 0 0 [.ref 33, .int a1, .int a2] (zm_hp m) (zm_QI K) := by
  unfold j_Model_river at hJ
  refine zq_meth (ini := false) rfl (fun h => by cases h) (Nat.le_of_ble_eq_true rfl) ?_
  refine zr_L (F := ("RiichiTableModel", prog_9_method_77_code, 3, (some .int), false, zq_rm 1 0 0)) (L' := [some (.ref 33), some (.int a1), some (.int a2)]) rfl ?_
  refine zq_aload_n d_Model_river_0 rfl rfl ?_
  refine zq_iload_n d_Model_river_1 rfl rfl ?_
  refine zr_cvI (q := 33) (as := [.int a1]) (st := []) d_Model_river_2 cc_Model_375 cv_Model_shows zs_Model (s_Model_shows  hJ) rfl ⟨Nat.le_of_ble_eq_true rfl, Nat.le_of_ble_eq_true rfl⟩ (Nat.le_of_ble_eq_true rfl) ⟨Nat.le_refl _, Nat.le_refl _⟩ rfl (fun r2 m1 hJ => ?_)
  refine zq_if_eq (tgt := 22) d_Model_river_5 (by decide) (fun c => ?_) (fun c => ?_)
  · have hJ := hJ.1 c
    refine zr_less (L' := [some (.ref 33), some (.int a1), some (.int a2)]) ⟨rfl, ⟨rfl, ⟨rfl, trivial⟩⟩⟩ ?_
    exact s_Model_river_L22    hJ
  · have hJ := hJ.2 c
    refine zq_iload_n d_Model_river_8 rfl rfl ?_
    refine zq_if_lt (tgt := 22) d_Model_river_9 (by decide) (fun c => ?_) (fun c => ?_)
    · have hJ := hJ.1 c
      refine zr_less (L' := [some (.ref 33), some (.int a1), some (.int a2)]) ⟨rfl, ⟨rfl, ⟨rfl, trivial⟩⟩⟩ ?_
      exact s_Model_river_L22    hJ
    · have hJ := hJ.2 c
      refine zq_iload_n d_Model_river_12 rfl rfl ?_
      refine zq_aload_n d_Model_river_13 rfl rfl ?_
      refine zm_getR fg_Model_28 d_Model_river_14 zs_Model rfl ?_
      refine zq_iload_n d_Model_river_17 rfl rfl ?_
      obtain ⟨hb, hJ⟩ := hJ
      refine zm_ald d_Model_river_18 (rfl : zm_sh[40]? = some (.inl (0, 4, .inl (fun _ => 0)))) hb ?_
      refine zq_icmp_lt (tgt := 26) d_Model_river_19 (by decide) (fun c => ?_) (fun c => ?_)
      · have hJ := hJ.1 c
        refine zq_aload_n d_Model_river_26 rfl rfl ?_
        refine zm_getR fg_Model_31 d_Model_river_27 zs_Model rfl ?_
        refine zq_bipush (v := 100) d_Model_river_30 zk_b100 ?_
        refine zq_iload_n d_Model_river_32 rfl rfl ?_
        refine zq_imul d_Model_river_33 ?_
        refine zq_iload_n d_Model_river_34 rfl rfl ?_
        refine zq_iadd d_Model_river_35 ?_
        obtain ⟨hb, hJ⟩ := hJ
        refine zm_ald d_Model_river_36 (rfl : zm_sh[41]? = some (.inl (0, 400, .inl (fun _ => 0)))) hb ?_
        refine zr_less (L' := [some (.ref 33), some (.int a1), some (.int a2)]) ⟨rfl, ⟨rfl, ⟨rfl, trivial⟩⟩⟩ ?_
        exact s_Model_river_L37    hJ
      · have hJ := hJ.2 c
        refine zr_less (L' := [some (.ref 33), some (.int a1), some (.int a2)]) ⟨rfl, ⟨rfl, ⟨rfl, trivial⟩⟩⟩ ?_
        exact s_Model_river_L22    hJ
set_option maxHeartbeats 400000 in
theorem s_Model_waits_L17 {g : zk_T} {a1 : Int32} {K : Int64 → zm → Prop} {t0 : Int64} {m : zm} (hJ : j_Model_waits_L17 a1  K t0 m) : zq_V (zk_g g) ("RiichiTableModel", prog_9_method_78_code, 2, (some .long), false, zq_rm 4 0 0) 0 0 17 [some (.ref 33), some (.int a1)] [.long t0] (zm_hp m) (zm_QL K) := by
  unfold j_Model_waits_L17 at hJ
  exact zq_lret d_Model_waits_17 rfl (Nat.le_refl _) (Nat.le_refl _) ⟨_, _, rfl, rfl, hJ⟩
set_option maxHeartbeats 400000 in
theorem s_Model_waits {g : zk_T} {a1 : Int32} {K : Int64 → zm → Prop} {m : zm} (hJ : j_Model_waits a1 m K) : zq_Mt (zk_g g) y_Model_waits 4 0 0 [.ref 33, .int a1] (zm_hp m) (zm_QL K) := by
  unfold j_Model_waits at hJ
  refine zq_meth (ini := false) rfl (fun h => by cases h) (Nat.le_of_ble_eq_true rfl) ?_
  refine zr_L (F := ("RiichiTableModel", prog_9_method_78_code, 2, (some .long), false, zq_rm 4 0 0)) (L' := [some (.ref 33), some (.int a1)]) rfl ?_
  refine zq_aload_n d_Model_waits_0 rfl rfl ?_
  refine zq_iload_n d_Model_waits_1 rfl rfl ?_
  refine zr_cvI (q := 33) (as := [.int a1]) (st := []) d_Model_waits_2 cc_Model_375 cv_Model_shows zs_Model (s_Model_shows  hJ) rfl ⟨Nat.le_of_ble_eq_true rfl, Nat.le_of_ble_eq_true rfl⟩ (Nat.le_of_ble_eq_true rfl) ⟨Nat.le_refl _, Nat.le_refl _⟩ rfl (fun r2 m1 hJ => ?_)
  refine zq_if_eq (tgt := 16) d_Model_waits_5 (by decide) (fun c => ?_) (fun c => ?_)
  · have hJ := hJ.1 c
    refine zq_lconst (v := 0) d_Model_waits_16 zk_l0 ?_
    refine zr_less (L' := [some (.ref 33), some (.int a1)]) ⟨rfl, ⟨rfl, trivial⟩⟩ ?_
    exact s_Model_waits_L17    hJ
  · have hJ := hJ.2 c
    refine zq_aload_n d_Model_waits_8 rfl rfl ?_
    refine zq_iload_n d_Model_waits_9 rfl rfl ?_
    refine zr_cvL (q := 33) (as := [.int a1]) (st := []) d_Model_waits_10 cc_Model_177 cv_Model_waitsOf zs_Model (s_Model_waitsOf  hJ) rfl ⟨Nat.le_of_ble_eq_true rfl, Nat.le_of_ble_eq_true rfl⟩ (Nat.le_of_ble_eq_true rfl) ⟨Nat.le_refl _, Nat.le_refl _⟩ rfl (fun r4 m3 hJ => ?_)
    refine zq_goto (tgt := 17) d_Model_waits_13 (by decide) ?_
    refine zr_less (L' := [some (.ref 33), some (.int a1)]) ⟨rfl, ⟨rfl, trivial⟩⟩ ?_
    exact s_Model_waits_L17    hJ
set_option maxHeartbeats 400000 in
theorem s_Model_furiten_L21 {g : zk_T} {a1 : Int32} {K : Int32 → zm → Prop} {t0 : Int32} {m : zm} (hJ : j_Model_furiten_L21 a1  K t0 m) : zq_V (zk_g g) ("RiichiTableModel", prog_9_method_79_code, 2, (some .boolean), false, zq_rm 6 0 0) 0 0 21 [some (.ref 33), some (.int a1)] [.int t0] (zm_hp m) (zm_QI K) := by
  unfold j_Model_furiten_L21 at hJ
  exact zq_iret d_Model_furiten_21 rfl hJ.1.nar (Nat.le_refl _) (Nat.le_refl _) ⟨_, _, rfl, rfl, hJ.2⟩
set_option maxHeartbeats 400000 in
theorem s_Model_furiten_L20 {g : zk_T} {a1 : Int32} {K : Int32 → zm → Prop} {m : zm} (hJ : j_Model_furiten_L20 a1  K  m) : zq_V (zk_g g) ("RiichiTableModel", prog_9_method_79_code, 2, (some .boolean), false, zq_rm 6 0 0) 0 0 20 [some (.ref 33), some (.int a1)] [] (zm_hp m) (zm_QI K) := by
  unfold j_Model_furiten_L20 at hJ
  refine zq_iconst (v := 0) d_Model_furiten_20 zk_i0 ?_
  refine zr_less (L' := [some (.ref 33), some (.int a1)]) ⟨rfl, ⟨rfl, trivial⟩⟩ ?_
  exact s_Model_furiten_L21    hJ
set_option maxHeartbeats 400000 in
theorem s_Model_furiten {g : zk_T} {a1 : Int32} {K : Int32 → zm → Prop} {m : zm} (hJ : j_Model_furiten a1 m K) : zq_Mt (zk_g g) y_Model_furiten 6 0 0 [.ref 33, .int a1] (zm_hp m) (zm_QI K) := by
  unfold j_Model_furiten at hJ
  refine zq_meth (ini := false) rfl (fun h => by cases h) (Nat.le_of_ble_eq_true rfl) ?_
  refine zr_L (F := ("RiichiTableModel", prog_9_method_79_code, 2, (some .boolean), false, zq_rm 6 0 0)) (L' := [some (.ref 33), some (.int a1)]) rfl ?_
  refine zq_aload_n d_Model_furiten_0 rfl rfl ?_
  refine zq_iload_n d_Model_furiten_1 rfl rfl ?_
  refine zr_cvI (q := 33) (as := [.int a1]) (st := []) d_Model_furiten_2 cc_Model_375 cv_Model_shows zs_Model (s_Model_shows  hJ) rfl ⟨Nat.le_of_ble_eq_true rfl, Nat.le_of_ble_eq_true rfl⟩ (Nat.le_of_ble_eq_true rfl) ⟨Nat.le_refl _, Nat.le_refl _⟩ rfl (fun r2 m1 hJ => ?_)
  refine zq_if_eq (tgt := 20) d_Model_furiten_5 (by decide) (fun c => ?_) (fun c => ?_)
  · have hJ := hJ.1 c
    refine zr_less (L' := [some (.ref 33), some (.int a1)]) ⟨rfl, ⟨rfl, trivial⟩⟩ ?_
    exact s_Model_furiten_L20    hJ
  · have hJ := hJ.2 c
    refine zq_aload_n d_Model_furiten_8 rfl rfl ?_
    refine zq_iload_n d_Model_furiten_9 rfl rfl ?_
    refine zr_cvI (q := 33) (as := [.int a1]) (st := []) d_Model_furiten_10 cc_Model_319 cv_Model_isFuriten zs_Model (s_Model_isFuriten  hJ) rfl ⟨Nat.le_of_ble_eq_true rfl, Nat.le_of_ble_eq_true rfl⟩ (Nat.le_of_ble_eq_true rfl) ⟨Nat.le_refl _, Nat.le_refl _⟩ rfl (fun r4 m3 hJ => ?_)
    refine zq_if_eq (tgt := 20) d_Model_furiten_13 (by decide) (fun c => ?_) (fun c => ?_)
    · have hJ := hJ.1 c
      refine zr_less (L' := [some (.ref 33), some (.int a1)]) ⟨rfl, ⟨rfl, trivial⟩⟩ ?_
      exact s_Model_furiten_L20    hJ
    · have hJ := hJ.2 c
      refine zq_iconst (v := 1) d_Model_furiten_16 zk_i1 ?_
      refine zq_goto (tgt := 21) d_Model_furiten_17 (by decide) ?_
      refine zr_less (L' := [some (.ref 33), some (.int a1)]) ⟨rfl, ⟨rfl, trivial⟩⟩ ?_
      exact s_Model_furiten_L21    hJ
set_option maxHeartbeats 400000 in
theorem s_Model_points_L19 {g : zk_T} {a1 : Int32} {K : Int32 → zm → Prop} {t0 : Int32} {m : zm} (hJ : j_Model_points_L19 a1  K t0 m) : zq_V (zk_g g) ("RiichiTableModel", prog_9_method_80_code, 2, (some .int), false, zq_rm 0 0 0) 0 0 19 [some (.ref 33), some (.int a1)] [.int t0] (zm_hp m) (zm_QI K) := by
  unfold j_Model_points_L19 at hJ
  exact zq_iret d_Model_points_19 rfl rfl (Nat.le_refl _) (Nat.le_refl _) ⟨_, _, rfl, rfl, hJ⟩
set_option maxHeartbeats 400000 in
theorem s_Model_points_L9 {g : zk_T} {a1 : Int32} {K : Int32 → zm → Prop} {m : zm} (hJ : j_Model_points_L9 a1  K  m) : zq_V (zk_g g) ("RiichiTableModel", prog_9_method_80_code, 2, (some .int), false, zq_rm 0 0 0) 0 0 9 [some (.ref 33), some (.int a1)] [] (zm_hp m) (zm_QI K) := by
  unfold j_Model_points_L9 at hJ
  refine zq_iconst (v := 0) d_Model_points_9 zk_i0 ?_
  refine zq_goto (tgt := 19) d_Model_points_10 (by decide) ?_
  refine zr_less (L' := [some (.ref 33), some (.int a1)]) ⟨rfl, ⟨rfl, trivial⟩⟩ ?_
  exact s_Model_points_L19    hJ
set_option maxHeartbeats 400000 in
theorem s_Model_points {g : zk_T} {a1 : Int32} {K : Int32 → zm → Prop} {m : zm} (hJ : j_Model_points a1 m K) : zq_Mt (zk_g g) y_Model_points 0 0 0 [.ref 33, .int a1] (zm_hp m) (zm_QI K) := by
  unfold j_Model_points at hJ
  refine zq_meth (ini := false) rfl (fun h => by cases h) (Nat.le_of_ble_eq_true rfl) ?_
  refine zr_L (F := ("RiichiTableModel", prog_9_method_80_code, 2, (some .int), false, zq_rm 0 0 0)) (L' := [some (.ref 33), some (.int a1)]) rfl ?_
  refine zq_iload_n d_Model_points_0 rfl rfl ?_
  refine zq_if_lt (tgt := 9) d_Model_points_1 (by decide) (fun c => ?_) (fun c => ?_)
  · have hJ := hJ.1 c
    refine zr_less (L' := [some (.ref 33), some (.int a1)]) ⟨rfl, ⟨rfl, trivial⟩⟩ ?_
    exact s_Model_points_L9    hJ
  · have hJ := hJ.2 c
    refine zq_iload_n d_Model_points_4 rfl rfl ?_
    refine zq_iconst (v := 3) d_Model_points_5 zk_i3 ?_
    refine zq_icmp_le (tgt := 13) d_Model_points_6 (by decide) (fun c => ?_) (fun c => ?_)
    · have hJ := hJ.1 c
      refine zq_aload_n d_Model_points_13 rfl rfl ?_
      refine zm_getR fg_Model_13 d_Model_points_14 zs_Model rfl ?_
      refine zq_iload_n d_Model_points_17 rfl rfl ?_
      obtain ⟨hb, hJ⟩ := hJ
      refine zm_ald d_Model_points_18 (rfl : zm_sh[35]? = some (.inl (0, 4, .inl (fun _ => 0)))) hb ?_
      refine zr_less (L' := [some (.ref 33), some (.int a1)]) ⟨rfl, ⟨rfl, trivial⟩⟩ ?_
      exact s_Model_points_L19    hJ
    · have hJ := hJ.2 c
      refine zr_less (L' := [some (.ref 33), some (.int a1)]) ⟨rfl, ⟨rfl, trivial⟩⟩ ?_
      exact s_Model_points_L9    hJ
set_option maxHeartbeats 400000 in
theorem s_Model_table_L92 {g : zk_T} {a1 : Int32} {K : Int32 → zm → Prop} {t0 : Int32} {m : zm} (hJ : j_Model_table_L92 a1  K t0 m) : zq_V (zk_g g) ("RiichiTableModel", prog_9_method_81_code, 3, (some .int), false, zq_rm 1 0 0) 0 0 92 [some (.ref 33), some (.int a1), none] [.int t0] (zm_hp m) (zm_QI K) := by
  unfold j_Model_table_L92 at hJ
  exact zq_iret d_Model_table_92 rfl rfl (Nat.le_refl _) (Nat.le_refl _) ⟨_, _, rfl, rfl, hJ⟩
set_option maxHeartbeats 400000 in
theorem s_Model_table_L105 {g : zk_T} {a1 : Int32} {K : Int32 → zm → Prop} {t0 : Int32} {m : zm} (hJ : j_Model_table_L105 a1  K t0 m) : zq_V (zk_g g) ("RiichiTableModel", prog_9_method_81_code, 3, (some .int), false, zq_rm 1 0 0) 0 0 105 [some (.ref 33), some (.int a1), none] [.int t0] (zm_hp m) (zm_QI K) := by
  unfold j_Model_table_L105 at hJ
  exact zq_iret d_Model_table_105 rfl rfl (Nat.le_refl _) (Nat.le_refl _) ⟨_, _, rfl, rfl, hJ⟩
set_option maxHeartbeats 400000 in
theorem s_Model_table_L21 {g : zk_T} {a1 : Int32} {K : Int32 → zm → Prop} {t0 : Int32} {m : zm} (hJ : j_Model_table_L21 a1  K t0 m) : zq_V (zk_g g) ("RiichiTableModel", prog_9_method_81_code, 3, (some .int), false, zq_rm 1 0 0) 0 0 21 [some (.ref 33), some (.int a1), none] [.int t0] (zm_hp m) (zm_QI K) := by
  unfold j_Model_table_L21 at hJ
  refine zr_istore_n (L' := [some (.ref 33), some (.int a1), some (.int t0)]) d_Model_table_21 rfl (Nat.le_of_ble_eq_true rfl) rfl ?_
  refine zq_iload_n d_Model_table_22 rfl rfl ?_
  rcases Classical.em (Int32.toInt a1 < 0 ∨ ((5 : Nat) : Int) < Int32.toInt a1) with hsw | hsw
  · have hJ := hJ.1 hsw
    refine zq_swOut (tgt := 106) d_Model_table_23 hsw (by decide) ?_
    refine zq_iconst (v := (-1)) d_Model_table_106 zk_im1 ?_
    exact zq_iret d_Model_table_107 rfl rfl (Nat.le_refl _) (Nat.le_refl _) ⟨_, _, rfl, rfl, hJ⟩
  · obtain ⟨jsw, hj1, hj2, hj3⟩ := zr_sw (by decide) hsw
    have hJ := hJ.2
    match jsw, hj1, hj2, hj3 with
    | 0, _, hj2, hj3 =>
      have hJ := hJ.1 hj2
      refine zq_swIn (tgt := 60) d_Model_table_23 (fun h => hsw (Or.inl h)) (fun h => hsw (Or.inr h)) (off := 37) (by rw [hj3]; rfl) (by decide) ?_
      refine zq_aload_n d_Model_table_60 rfl rfl ?_
      refine zm_getI fg_Model_96 d_Model_table_61 zs_Model rfl ?_
      exact zq_iret d_Model_table_64 rfl rfl (Nat.le_refl _) (Nat.le_refl _) ⟨_, _, rfl, rfl, hJ⟩
    | 1, _, hj2, hj3 =>
      have hJ := hJ.2.1 hj2
      refine zq_swIn (tgt := 65) d_Model_table_23 (fun h => hsw (Or.inl h)) (fun h => hsw (Or.inr h)) (off := 42) (by rw [hj3]; rfl) (by decide) ?_
      refine zq_aload_n d_Model_table_65 rfl rfl ?_
      refine zm_getI fg_Model_216 d_Model_table_66 zs_Model rfl ?_
      exact zq_iret d_Model_table_69 rfl rfl (Nat.le_refl _) (Nat.le_refl _) ⟨_, _, rfl, rfl, hJ⟩
    | 2, _, hj2, hj3 =>
      have hJ := hJ.2.2.1 hj2
      refine zq_swIn (tgt := 70) d_Model_table_23 (fun h => hsw (Or.inl h)) (fun h => hsw (Or.inr h)) (off := 47) (by rw [hj3]; rfl) (by decide) ?_
      refine zq_aload_n d_Model_table_70 rfl rfl ?_
      refine zm_getI fg_Model_365 d_Model_table_71 zs_Model rfl ?_
      exact zq_iret d_Model_table_74 rfl rfl (Nat.le_refl _) (Nat.le_refl _) ⟨_, _, rfl, rfl, hJ⟩
    | 3, _, hj2, hj3 =>
      have hJ := hJ.2.2.2.1 hj2
      refine zq_swIn (tgt := 75) d_Model_table_23 (fun h => hsw (Or.inl h)) (fun h => hsw (Or.inr h)) (off := 52) (by rw [hj3]; rfl) (by decide) ?_
      refine zq_aload_n d_Model_table_75 rfl rfl ?_
      refine zm_getI fg_Model_346 d_Model_table_76 zs_Model rfl ?_
      exact zq_iret d_Model_table_79 rfl rfl (Nat.le_refl _) (Nat.le_refl _) ⟨_, _, rfl, rfl, hJ⟩
    | 4, _, hj2, hj3 =>
      have hJ := hJ.2.2.2.2.1 hj2
      refine zq_swIn (tgt := 80) d_Model_table_23 (fun h => hsw (Or.inl h)) (fun h => hsw (Or.inr h)) (off := 57) (by rw [hj3]; rfl) (by decide) ?_
      refine zq_iload_n d_Model_table_80 rfl rfl ?_
      refine zq_if_eq (tgt := 91) d_Model_table_81 (by decide) (fun c => ?_) (fun c => ?_)
      · have hJ := hJ.1 c
        refine zq_iconst (v := 0) d_Model_table_91 zk_i0 ?_
        refine zr_less (L' := [some (.ref 33), some (.int a1), none]) ⟨rfl, ⟨rfl, trivial⟩⟩ ?_
        exact s_Model_table_L92    hJ
      · have hJ := hJ.2 c
        refine zq_aload_n d_Model_table_84 rfl rfl ?_
        refine zr_cvI (q := 33) (as := []) (st := []) d_Model_table_85 cc_Model_122 cv_Model_left zs_Model (s_Model_left  hJ) rfl ⟨Nat.le_of_ble_eq_true rfl, Nat.le_of_ble_eq_true rfl⟩ (Nat.le_of_ble_eq_true rfl) ⟨Nat.le_refl _, Nat.le_refl _⟩ rfl (fun r2 m1 hJ => ?_)
        refine zq_goto (tgt := 92) d_Model_table_88 (by decide) ?_
        refine zr_less (L' := [some (.ref 33), some (.int a1), none]) ⟨rfl, ⟨rfl, trivial⟩⟩ ?_
        exact s_Model_table_L92    hJ
    | 5, _, hj2, hj3 =>
      have hJ := hJ.2.2.2.2.2 hj2
      refine zq_swIn (tgt := 93) d_Model_table_23 (fun h => hsw (Or.inl h)) (fun h => hsw (Or.inr h)) (off := 70) (by rw [hj3]; rfl) (by decide) ?_
      refine zq_iload_n d_Model_table_93 rfl rfl ?_
      refine zq_if_eq (tgt := 104) d_Model_table_94 (by decide) (fun c => ?_) (fun c => ?_)
      · have hJ := hJ.1 c
        refine zq_iconst (v := 0) d_Model_table_104 zk_i0 ?_
        refine zr_less (L' := [some (.ref 33), some (.int a1), none]) ⟨rfl, ⟨rfl, trivial⟩⟩ ?_
        exact s_Model_table_L105    hJ
      · have hJ := hJ.2 c
        refine zq_aload_n d_Model_table_97 rfl rfl ?_
        refine zm_getI fg_Model_93 d_Model_table_98 zs_Model rfl ?_
        refine zq_goto (tgt := 105) d_Model_table_101 (by decide) ?_
        refine zr_less (L' := [some (.ref 33), some (.int a1), none]) ⟨rfl, ⟨rfl, trivial⟩⟩ ?_
        exact s_Model_table_L105    hJ
    | jsw + 6, hj1, _, _ => exact absurd hj1 (by omega)
set_option maxHeartbeats 400000 in
theorem s_Model_table_L20 {g : zk_T} {a1 : Int32} {K : Int32 → zm → Prop} {m : zm} (hJ : j_Model_table_L20 a1  K  m) : zq_V (zk_g g) ("RiichiTableModel", prog_9_method_81_code, 3, (some .int), false, zq_rm 1 0 0) 0 0 20 [some (.ref 33), some (.int a1), none] [] (zm_hp m) (zm_QI K) := by
  unfold j_Model_table_L20 at hJ
  refine zq_iconst (v := 0) d_Model_table_20 zk_i0 ?_
  refine zr_less (L' := [some (.ref 33), some (.int a1), none]) ⟨rfl, ⟨rfl, trivial⟩⟩ ?_
  exact s_Model_table_L21    hJ
set_option maxHeartbeats 400000 in
theorem s_Model_table {g : zk_T} {a1 : Int32} {K : Int32 → zm → Prop} {m : zm} (hJ : j_Model_table a1 m K) : zq_Mt (zk_g g) y_Model_table 1 0 0 [.ref 33, .int a1] (zm_hp m) (zm_QI K) := by
  unfold j_Model_table at hJ
  refine zq_meth (ini := false) rfl (fun h => by cases h) (Nat.le_of_ble_eq_true rfl) ?_
  refine zr_L (F := ("RiichiTableModel", prog_9_method_81_code, 3, (some .int), false, zq_rm 1 0 0)) (L' := [some (.ref 33), some (.int a1), none]) rfl ?_
  refine zq_aload_n d_Model_table_0 rfl rfl ?_
  refine zm_getI fg_Model_90 d_Model_table_1 zs_Model rfl ?_
  refine zq_iconst (v := 1) d_Model_table_4 zk_i1 ?_
  refine zq_icmp_lt (tgt := 20) d_Model_table_5 (by decide) (fun c => ?_) (fun c => ?_)
  · have hJ := hJ.1 c
    refine zr_less (L' := [some (.ref 33), some (.int a1), none]) ⟨rfl, ⟨rfl, trivial⟩⟩ ?_
    exact s_Model_table_L20    hJ
  · have hJ := hJ.2 c
    refine zq_aload_n d_Model_table_8 rfl rfl ?_
    refine zm_getI fg_Model_90 d_Model_table_9 zs_Model rfl ?_
    refine zq_iconst (v := 3) d_Model_table_12 zk_i3 ?_
    refine zq_icmp_gt (tgt := 20) d_Model_table_13 (by decide) (fun c => ?_) (fun c => ?_)
    · have hJ := hJ.1 c
      refine zr_less (L' := [some (.ref 33), some (.int a1), none]) ⟨rfl, ⟨rfl, trivial⟩⟩ ?_
      exact s_Model_table_L20    hJ
    · have hJ := hJ.2 c
      refine zq_iconst (v := 1) d_Model_table_16 zk_i1 ?_
      refine zq_goto (tgt := 21) d_Model_table_17 (by decide) ?_
      refine zr_less (L' := [some (.ref 33), some (.int a1), none]) ⟨rfl, ⟨rfl, trivial⟩⟩ ?_
      exact s_Model_table_L21    hJ
set_option maxHeartbeats 400000 in
theorem s_Model_worth_L43 {g : zk_T} {a1 : Int32} {a2 : Int32} {K : Int32 → zm → Prop} {t0 : Int32} {m : zm} (hJ : j_Model_worth_L43 a1 a2  K t0 m) : zq_V (zk_g g) ("RiichiTableModel", prog_9_method_82_code, 3, (some .int), false, zq_rm 0 0 0) 0 0 43 [some (.ref 33), some (.int a1), some (.int a2)] [.int t0] (zm_hp m) (zm_QI K) := by
  unfold j_Model_worth_L43 at hJ
  exact zq_iret d_Model_worth_43 rfl rfl (Nat.le_refl _) (Nat.le_refl _) ⟨_, _, rfl, rfl, hJ⟩
set_option maxHeartbeats 400000 in
theorem s_Model_worth_L29 {g : zk_T} {a1 : Int32} {a2 : Int32} {K : Int32 → zm → Prop} {m : zm} (hJ : j_Model_worth_L29 a1 a2  K  m) : zq_V (zk_g g) ("RiichiTableModel", prog_9_method_82_code, 3, (some .int), false, zq_rm 0 0 0) 0 0 29 [some (.ref 33), some (.int a1), some (.int a2)] [] (zm_hp m) (zm_QI K) := by
  unfold j_Model_worth_L29 at hJ
  refine zq_iconst (v := (-1)) d_Model_worth_29 zk_im1 ?_
  refine zq_goto (tgt := 43) d_Model_worth_30 (by decide) ?_
  refine zr_less (L' := [some (.ref 33), some (.int a1), some (.int a2)]) ⟨rfl, ⟨rfl, ⟨rfl, trivial⟩⟩⟩ ?_
  exact s_Model_worth_L43    hJ
set_option maxHeartbeats 400000 in
theorem s_Model_worth {g : zk_T} {a1 : Int32} {a2 : Int32} {K : Int32 → zm → Prop} {m : zm} (hJ : j_Model_worth a1 a2 m K) : zq_Mt (zk_g g) y_Model_worth 0 0 0 [.ref 33, .int a1, .int a2] (zm_hp m) (zm_QI K) := by
  unfold j_Model_worth at hJ
  refine zq_meth (ini := false) rfl (fun h => by cases h) (Nat.le_of_ble_eq_true rfl) ?_
  refine zr_L (F := ("RiichiTableModel", prog_9_method_82_code, 3, (some .int), false, zq_rm 0 0 0)) (L' := [some (.ref 33), some (.int a1), some (.int a2)]) rfl ?_
  refine zq_iload_n d_Model_worth_0 rfl rfl ?_
  refine zq_if_lt (tgt := 29) d_Model_worth_1 (by decide) (fun c => ?_) (fun c => ?_)
  · have hJ := hJ.1 c
    refine zr_less (L' := [some (.ref 33), some (.int a1), some (.int a2)]) ⟨rfl, ⟨rfl, ⟨rfl, trivial⟩⟩⟩ ?_
    exact s_Model_worth_L29    hJ
  · have hJ := hJ.2 c
    refine zq_iload_n d_Model_worth_4 rfl rfl ?_
    refine zq_iconst (v := 3) d_Model_worth_5 zk_i3 ?_
    refine zq_icmp_gt (tgt := 29) d_Model_worth_6 (by decide) (fun c => ?_) (fun c => ?_)
    · have hJ := hJ.1 c
      refine zr_less (L' := [some (.ref 33), some (.int a1), some (.int a2)]) ⟨rfl, ⟨rfl, ⟨rfl, trivial⟩⟩⟩ ?_
      exact s_Model_worth_L29    hJ
    · have hJ := hJ.2 c
      refine zq_iload_n d_Model_worth_9 rfl rfl ?_
      refine zq_if_lt (tgt := 29) d_Model_worth_10 (by decide) (fun c => ?_) (fun c => ?_)
      · have hJ := hJ.1 c
        refine zr_less (L' := [some (.ref 33), some (.int a1), some (.int a2)]) ⟨rfl, ⟨rfl, ⟨rfl, trivial⟩⟩⟩ ?_
        exact s_Model_worth_L29    hJ
      · have hJ := hJ.2 c
        refine zq_iload_n d_Model_worth_13 rfl rfl ?_
        refine zq_iconst (v := 3) d_Model_worth_14 zk_i3 ?_
        refine zq_icmp_gt (tgt := 29) d_Model_worth_15 (by decide) (fun c => ?_) (fun c => ?_)
        · have hJ := hJ.1 c
          refine zr_less (L' := [some (.ref 33), some (.int a1), some (.int a2)]) ⟨rfl, ⟨rfl, ⟨rfl, trivial⟩⟩⟩ ?_
          exact s_Model_worth_L29    hJ
        · have hJ := hJ.2 c
          refine zq_aload_n d_Model_worth_18 rfl rfl ?_
          refine zm_getR fg_Model_53 d_Model_worth_19 zs_Model rfl ?_
          refine zq_iconst (v := 4) d_Model_worth_22 zk_i4 ?_
          refine zq_iload_n d_Model_worth_23 rfl rfl ?_
          refine zq_imul d_Model_worth_24 ?_
          obtain ⟨hb, hJ⟩ := hJ
          refine zm_ald d_Model_worth_25 (rfl : zm_sh[48]? = some (.inl (0, 16, .inl (fun _ => 0)))) hb ?_
          refine zq_if_ge (tgt := 33) d_Model_worth_26 (by decide) (fun c => ?_) (fun c => ?_)
          · have hJ := hJ.1 c
            refine zq_aload_n d_Model_worth_33 rfl rfl ?_
            refine zm_getR fg_Model_53 d_Model_worth_34 zs_Model rfl ?_
            refine zq_iconst (v := 4) d_Model_worth_37 zk_i4 ?_
            refine zq_iload_n d_Model_worth_38 rfl rfl ?_
            refine zq_imul d_Model_worth_39 ?_
            refine zq_iload_n d_Model_worth_40 rfl rfl ?_
            refine zq_iadd d_Model_worth_41 ?_
            obtain ⟨hb, hJ⟩ := hJ
            refine zm_ald d_Model_worth_42 (rfl : zm_sh[48]? = some (.inl (0, 16, .inl (fun _ => 0)))) hb ?_
            refine zr_less (L' := [some (.ref 33), some (.int a1), some (.int a2)]) ⟨rfl, ⟨rfl, ⟨rfl, trivial⟩⟩⟩ ?_
            exact s_Model_worth_L43    hJ
          · have hJ := hJ.2 c
            refine zr_less (L' := [some (.ref 33), some (.int a1), some (.int a2)]) ⟨rfl, ⟨rfl, ⟨rfl, trivial⟩⟩⟩ ?_
            exact s_Model_worth_L29    hJ
set_option maxHeartbeats 400000 in
theorem s_Model_yaku_L30 {g : zk_T} {a1 : Int32} {K : Int64 → zm → Prop} {t0 : Int64} {m : zm} (hJ : j_Model_yaku_L30 a1  K t0 m) : zq_V (zk_g g) ("RiichiTableModel", prog_9_method_83_code, 2, (some .long), false, zq_rm 0 0 0) 0 0 30 [some (.ref 33), some (.int a1)] [.long t0] (zm_hp m) (zm_QL K) := by
  unfold j_Model_yaku_L30 at hJ
  exact zq_lret d_Model_yaku_30 rfl (Nat.le_refl _) (Nat.le_refl _) ⟨_, _, rfl, rfl, hJ⟩
set_option maxHeartbeats 400000 in
theorem s_Model_yaku_L20 {g : zk_T} {a1 : Int32} {K : Int64 → zm → Prop} {m : zm} (hJ : j_Model_yaku_L20 a1  K  m) : zq_V (zk_g g) ("RiichiTableModel", prog_9_method_83_code, 2, (some .long), false, zq_rm 0 0 0) 0 0 20 [some (.ref 33), some (.int a1)] [] (zm_hp m) (zm_QL K) := by
  unfold j_Model_yaku_L20 at hJ
  refine zq_lconst (v := 0) d_Model_yaku_20 zk_l0 ?_
  refine zq_goto (tgt := 30) d_Model_yaku_21 (by decide) ?_
  refine zr_less (L' := [some (.ref 33), some (.int a1)]) ⟨rfl, ⟨rfl, trivial⟩⟩ ?_
  exact s_Model_yaku_L30    hJ
set_option maxHeartbeats 400000 in
theorem s_Model_yaku {g : zk_T} {a1 : Int32} {K : Int64 → zm → Prop} {m : zm} (hJ : j_Model_yaku a1 m K) : zq_Mt (zk_g g) y_Model_yaku 0 0 0 [.ref 33, .int a1] (zm_hp m) (zm_QL K) := by
  unfold j_Model_yaku at hJ
  refine zq_meth (ini := false) rfl (fun h => by cases h) (Nat.le_of_ble_eq_true rfl) ?_
  refine zr_L (F := ("RiichiTableModel", prog_9_method_83_code, 2, (some .long), false, zq_rm 0 0 0)) (L' := [some (.ref 33), some (.int a1)]) rfl ?_
  refine zq_iload_n d_Model_yaku_0 rfl rfl ?_
  refine zq_if_lt (tgt := 20) d_Model_yaku_1 (by decide) (fun c => ?_) (fun c => ?_)
  · have hJ := hJ.1 c
    refine zr_less (L' := [some (.ref 33), some (.int a1)]) ⟨rfl, ⟨rfl, trivial⟩⟩ ?_
    exact s_Model_yaku_L20    hJ
  · have hJ := hJ.2 c
    refine zq_iload_n d_Model_yaku_4 rfl rfl ?_
    refine zq_iconst (v := 3) d_Model_yaku_5 zk_i3 ?_
    refine zq_icmp_gt (tgt := 20) d_Model_yaku_6 (by decide) (fun c => ?_) (fun c => ?_)
    · have hJ := hJ.1 c
      refine zr_less (L' := [some (.ref 33), some (.int a1)]) ⟨rfl, ⟨rfl, trivial⟩⟩ ?_
      exact s_Model_yaku_L20    hJ
    · have hJ := hJ.2 c
      refine zq_aload_n d_Model_yaku_9 rfl rfl ?_
      refine zm_getR fg_Model_53 d_Model_yaku_10 zs_Model rfl ?_
      refine zq_iconst (v := 4) d_Model_yaku_13 zk_i4 ?_
      refine zq_iload_n d_Model_yaku_14 rfl rfl ?_
      refine zq_imul d_Model_yaku_15 ?_
      obtain ⟨hb, hJ⟩ := hJ
      refine zm_ald d_Model_yaku_16 (rfl : zm_sh[48]? = some (.inl (0, 16, .inl (fun _ => 0)))) hb ?_
      refine zq_if_ge (tgt := 24) d_Model_yaku_17 (by decide) (fun c => ?_) (fun c => ?_)
      · have hJ := hJ.1 c
        refine zq_aload_n d_Model_yaku_24 rfl rfl ?_
        refine zm_getR fg_Model_56 d_Model_yaku_25 zs_Model rfl ?_
        refine zq_iload_n d_Model_yaku_28 rfl rfl ?_
        obtain ⟨hb, hJ⟩ := hJ
        refine zm_lld d_Model_yaku_29 (rfl : zm_sh[49]? = some (.inl (1, 4, .inr (.inl (fun _ => 0))))) hb ?_
        refine zr_less (L' := [some (.ref 33), some (.int a1)]) ⟨rfl, ⟨rfl, trivial⟩⟩ ?_
        exact s_Model_yaku_L30    hJ
      · have hJ := hJ.2 c
        refine zr_less (L' := [some (.ref 33), some (.int a1)]) ⟨rfl, ⟨rfl, trivial⟩⟩ ?_
        exact s_Model_yaku_L20    hJ
set_option maxHeartbeats 400000 in
theorem s_Model_state {g : zk_T} {K : Int32 → zm → Prop} {m : zm} (hJ : j_Model_state  m K) : zq_Mt (zk_g g) y_Model_state 0 0 0 [.ref 33] (zm_hp m) (zm_QI K) := by
  unfold j_Model_state at hJ
  refine zq_meth (ini := false) rfl (fun h => by cases h) (Nat.le_of_ble_eq_true rfl) ?_
  refine zr_L (F := ("RiichiTableModel", prog_9_method_84_code, 1, (some .int), false, zq_rm 0 0 0)) (L' := [some (.ref 33)]) rfl ?_
  refine zq_aload_n d_Model_state_0 rfl rfl ?_
  refine zm_getI fg_Model_78 d_Model_state_1 zs_Model rfl ?_
  exact zq_iret d_Model_state_4 rfl rfl (Nat.le_refl _) (Nat.le_refl _) ⟨_, _, rfl, rfl, hJ⟩
