set_option maxHeartbeats 400000 in
theorem s_Table_win_L16 {g : zk_T} {K : Int32 → zm → Prop} {m : zm} (hJ : j_Table_win_L16   K  m) : zq_V (zk_g g) ("RiichiTable", prog_1_method_6_code, 7, (some .int), false, zq_rm 85 0 0) 0 0 16 [some (.ref 0), none, none, none, none, none, none] [] (zm_hp m) (zm_QI K) := by
  unfold j_Table_win_L16 at hJ
  refine zq_iconst (v := (-1)) d_Table_win_16 zk_im1 ?_
  exact zq_iret d_Table_win_17 rfl rfl (Nat.le_refl _) (Nat.le_refl _) ⟨_, _, rfl, rfl, hJ⟩
set_option maxHeartbeats 400000 in
theorem s_Table_win_L160 {g : zk_T} {R79 : Nat → Int32 → Int32 → Int32 → zm → Prop} {K : Int32 → zm → Prop} (hR79 : ∀ {r1 : Nat} {x2 : Int32} {x3 : Int32} {x4 : Int32} {m : zm}, zm_pl r1 → R79 r1 x2 x3 x4 m → zq_V (zk_g g) ("RiichiTable", prog_1_method_6_code, 7, (some .int), false, zq_rm 85 0 0) 0 0 79 [some (.ref 0), some (.ref r1), some (.int x2), some (.int x3), some (.int x4), none, none] [] (zm_hp m) (zm_QI K)) {r1 : Nat} {x2 : Int32} {x3 : Int32} {x4 : Int32} {m : zm} (hr1 : zm_pl r1) (hJ : j_Table_win_L160  R79 K r1 x2 x3 x4 m) : zq_V (zk_g g) ("RiichiTable", prog_1_method_6_code, 7, (some .int), false, zq_rm 85 0 0) 0 0 160 [some (.ref 0), some (.ref r1), some (.int x2), some (.int x3), some (.int x4), none, none] [] (zm_hp m) (zm_QI K) := by
  unfold j_Table_win_L160 at hJ
  refine zr_iinc (d' := 1) d_Table_win_160 zk_i1 rfl (Nat.le_of_ble_eq_true rfl) (fun y18 hy18 => ?_)
  have hJ := hJ y18 hy18
  refine zr_L (L' := [some (.ref 0), some (.ref r1), some (.int x2), some (.int x3), some (.int y18), none, none]) rfl ?_
  refine zq_goto (tgt := 79) d_Table_win_163 (by decide) ?_
  refine zr_less (L' := [some (.ref 0), some (.ref r1), some (.int x2), some (.int x3), some (.int y18), none, none]) ⟨rfl, ⟨rfl, ⟨rfl, ⟨rfl, ⟨rfl, trivial⟩⟩⟩⟩⟩ ?_
  exact hR79 hr1 hJ
set_option maxHeartbeats 400000 in
theorem s_Table_win_L119 {g : zk_T} {R79 : Nat → Int32 → Int32 → Int32 → zm → Prop} {K : Int32 → zm → Prop} (hR79 : ∀ {r1 : Nat} {x2 : Int32} {x3 : Int32} {x4 : Int32} {m : zm}, zm_pl r1 → R79 r1 x2 x3 x4 m → zq_V (zk_g g) ("RiichiTable", prog_1_method_6_code, 7, (some .int), false, zq_rm 85 0 0) 0 0 79 [some (.ref 0), some (.ref r1), some (.int x2), some (.int x3), some (.int x4), none, none] [] (zm_hp m) (zm_QI K)) {r1 : Nat} {x2 : Int32} {x3 : Int32} {x4 : Int32} {t0 : Int32} {m : zm} (hr1 : zm_pl r1) (hJ : j_Table_win_L119  R79 K r1 x2 x3 x4 t0 m) : zq_V (zk_g g) ("RiichiTable", prog_1_method_6_code, 7, (some .int), false, zq_rm 85 0 0) 0 0 119 [some (.ref 0), some (.ref r1), some (.int x2), some (.int x3), some (.int x4), none, none] [.int t0] (zm_hp m) (zm_QI K) := by
  unfold j_Table_win_L119 at hJ
  refine zr_istore (L' := [some (.ref 0), some (.ref r1), some (.int x2), some (.int x3), some (.int x4), some (.int t0), none]) d_Table_win_119 (Nat.le_of_ble_eq_true rfl) rfl ?_
  refine zq_iload d_Table_win_121 rfl ?_
  refine zq_iload_n d_Table_win_123 rfl rfl ?_
  refine zq_imul d_Table_win_124 ?_
  refine zr_csI (as := [.int (t0 * x2)]) (st := []) d_Table_win_125 cc_Table_149 cs_Table_toHundreds (s_Table_toHundreds  hJ) rfl ⟨Nat.le_of_ble_eq_true rfl, Nat.le_of_ble_eq_true rfl⟩ (Nat.le_of_ble_eq_true rfl) ⟨Nat.le_refl _, Nat.le_refl _⟩ rfl (fun r13 m12 hJ => ?_)
  refine zq_bipush (v := 100) d_Table_win_128 zk_b100 ?_
  refine zq_aload_n d_Table_win_130 rfl rfl ?_
  refine zm_getI fg_Table_153 d_Table_win_131 zs_Table rfl ?_
  refine zq_imul d_Table_win_134 ?_
  refine zq_iadd d_Table_win_135 ?_
  refine zr_topi (fun y14 hy14 => ?_)
  have hJ := hJ y14 hy14
  refine zr_istore (L' := [some (.ref 0), some (.ref r1), some (.int x2), some (.int x3), some (.int x4), some (.int t0), some (.int y14)]) d_Table_win_136 (Nat.le_of_ble_eq_true rfl) rfl ?_
  refine zq_aload_n d_Table_win_138 rfl rfl ?_
  refine zm_getR fg_Table_11 d_Table_win_139 zs_Table rfl ?_
  refine zq_iload d_Table_win_142 rfl ?_
  obtain ⟨hb15, hJ⟩ := hJ
  refine zm_pld d_Table_win_144 hb15 ?_
  refine zq_dup d_Table_win_145 rfl ?_
  refine zm_getI fg_Table_156 d_Table_win_146 (zm_pl_of hb15).s rfl ?_
  refine zq_iload d_Table_win_149 rfl ?_
  refine zq_isub d_Table_win_151 ?_
  refine zr_putI fl_Table_156 d_Table_win_152 (zm_pl_of hb15).s rfl rfl (fun m16 hm16 => ?_)
  have hJ := hJ m16 hm16
  refine zq_iload_n d_Table_win_155 rfl rfl ?_
  refine zq_iload d_Table_win_156 rfl ?_
  refine zq_iadd d_Table_win_158 ?_
  refine zr_topi (fun y17 hy17 => ?_)
  have hJ := hJ y17 hy17
  refine zr_istore_n (L' := [some (.ref 0), some (.ref r1), some (.int x2), some (.int y17), some (.int x4), some (.int t0), some (.int y14)]) d_Table_win_159 rfl (Nat.le_of_ble_eq_true rfl) rfl ?_
  refine zr_less (L' := [some (.ref 0), some (.ref r1), some (.int x2), some (.int y17), some (.int x4), none, none]) ⟨rfl, ⟨rfl, ⟨rfl, ⟨rfl, ⟨rfl, trivial⟩⟩⟩⟩⟩ ?_
  exact s_Table_win_L160  hR79 hr1 hJ
set_option maxHeartbeats 400000 in
theorem s_Table_win_L114 {g : zk_T} {R79 : Nat → Int32 → Int32 → Int32 → zm → Prop} {K : Int32 → zm → Prop} (hR79 : ∀ {r1 : Nat} {x2 : Int32} {x3 : Int32} {x4 : Int32} {m : zm}, zm_pl r1 → R79 r1 x2 x3 x4 m → zq_V (zk_g g) ("RiichiTable", prog_1_method_6_code, 7, (some .int), false, zq_rm 85 0 0) 0 0 79 [some (.ref 0), some (.ref r1), some (.int x2), some (.int x3), some (.int x4), none, none] [] (zm_hp m) (zm_QI K)) {r1 : Nat} {x2 : Int32} {x3 : Int32} {x4 : Int32} {m : zm} (hr1 : zm_pl r1) (hJ : j_Table_win_L114  R79 K r1 x2 x3 x4 m) : zq_V (zk_g g) ("RiichiTable", prog_1_method_6_code, 7, (some .int), false, zq_rm 85 0 0) 0 0 114 [some (.ref 0), some (.ref r1), some (.int x2), some (.int x3), some (.int x4), none, none] [] (zm_hp m) (zm_QI K) := by
  unfold j_Table_win_L114 at hJ
  refine zq_iconst (v := 2) d_Table_win_114 zk_i2 ?_
  refine zq_goto (tgt := 119) d_Table_win_115 (by decide) ?_
  refine zr_less (L' := [some (.ref 0), some (.ref r1), some (.int x2), some (.int x3), some (.int x4), none, none]) ⟨rfl, ⟨rfl, ⟨rfl, ⟨rfl, ⟨rfl, trivial⟩⟩⟩⟩⟩ ?_
  exact s_Table_win_L119  hR79 hr1 hJ
set_option maxHeartbeats 400000 in
theorem s_Table_win_L201 {g : zk_T} {K : Int32 → zm → Prop} {r1 : Nat} {t0 : Int32} {m : zm} (hr1 : zm_pl r1) (hJ : j_Table_win_L201   K r1 t0 m) : zq_V (zk_g g) ("RiichiTable", prog_1_method_6_code, 7, (some .int), false, zq_rm 85 0 0) 0 0 201 [some (.ref 0), some (.ref r1), none, none, none, none, none] [.int t0, .ref 0] (zm_hp m) (zm_QI K) := by
  unfold j_Table_win_L201 at hJ
  refine zq_iconst (v := 0) d_Table_win_201 zk_i0 ?_
  refine zr_cvV (q := 0) (as := [.int t0, .int 0]) (st := []) d_Table_win_202 cc_Table_162 cv_Table_endHand zs_Table (s_Table_endHand  hJ) rfl ⟨Nat.le_of_ble_eq_true rfl, Nat.le_of_ble_eq_true rfl⟩ (Nat.le_of_ble_eq_true rfl) ⟨Nat.le_refl _, Nat.le_refl _⟩ rfl (fun m19 hJ => ?_)
  refine zq_aload_n d_Table_win_205 rfl rfl ?_
  refine zm_getR fg_Table_130 d_Table_win_206 hr1.s rfl ?_
  refine zm_getI fg_Table_166 d_Table_win_209 (zm_pl.w hr1).s rfl ?_
  exact zq_iret d_Table_win_212 rfl rfl (Nat.le_refl _) (Nat.le_refl _) ⟨_, _, rfl, rfl, hJ⟩
set_option maxHeartbeats 400000 in
theorem s_Table_win_L79 {g : zk_T} {K : Int32 → zm → Prop} : ∀ (n : Nat) {r1 : Nat} {x2 : Int32} {x3 : Int32} {x4 : Int32} {m : zm}, zm_pl r1 → j_Table_win_L79   K n r1 x2 x3 x4 m → zq_V (zk_g g) ("RiichiTable", prog_1_method_6_code, 7, (some .int), false, zq_rm 85 0 0) 0 0 79 [some (.ref 0), some (.ref r1), some (.int x2), some (.int x3), some (.int x4), none, none] [] (zm_hp m) (zm_QI K) := by
  intro n
  induction n with
  | zero =>
    intro r1 x2 x3 x4 m hr1 hJ
    exact False.elim hJ
  | succ n ih =>
    intro r1 x2 x3 x4 m hr1 hJ
    rw [j_Table_win_L79] at hJ
    refine zq_iload d_Table_win_79 rfl ?_
    refine zq_iconst (v := 4) d_Table_win_81 zk_i4 ?_
    refine zq_icmp_ge (tgt := 166) d_Table_win_82 (by decide) (fun c => ?_) (fun c => ?_)
    · have hJ := hJ.1 c
      refine zq_aload_n d_Table_win_166 rfl rfl ?_
      refine zq_dup d_Table_win_167 rfl ?_
      refine zm_getI fg_Table_156 d_Table_win_168 hr1.s rfl ?_
      refine zq_iload_n d_Table_win_171 rfl rfl ?_
      refine zq_iadd d_Table_win_172 ?_
      refine zr_putI fl_Table_156 d_Table_win_173 hr1.s rfl rfl (fun m10 hm10 => ?_)
      have hJ := hJ m10 hm10
      refine zq_aload_n d_Table_win_176 rfl rfl ?_
      refine zm_getR fg_Table_130 d_Table_win_177 hr1.s rfl ?_
      refine zq_iload_n d_Table_win_180 rfl rfl ?_
      refine zr_putI fl_Table_159 d_Table_win_181 (zm_pl.w hr1).s rfl rfl (fun m11 hm11 => ?_)
      have hJ := hJ m11 hm11
      refine zq_aload_n d_Table_win_184 rfl rfl ?_
      refine zq_aload_n d_Table_win_185 rfl rfl ?_
      refine zm_getI fg_Table_71 d_Table_win_186 zs_Table rfl ?_
      refine zq_aload_n d_Table_win_189 rfl rfl ?_
      refine zm_getI fg_Table_46 d_Table_win_190 zs_Table rfl ?_
      refine zq_icmp_ne (tgt := 200) d_Table_win_193 (by decide) (fun c => ?_) (fun c => ?_)
      · have hJ := hJ.1 c
        refine zq_iconst (v := 0) d_Table_win_200 zk_i0 ?_
        refine zr_less (L' := [some (.ref 0), some (.ref r1), none, none, none, none, none]) ⟨rfl, ⟨rfl, trivial⟩⟩ ?_
        exact s_Table_win_L201   hr1 hJ
      · have hJ := hJ.2 c
        refine zq_iconst (v := 1) d_Table_win_196 zk_i1 ?_
        refine zq_goto (tgt := 201) d_Table_win_197 (by decide) ?_
        refine zr_less (L' := [some (.ref 0), some (.ref r1), none, none, none, none, none]) ⟨rfl, ⟨rfl, trivial⟩⟩ ?_
        exact s_Table_win_L201   hr1 hJ
    · have hJ := hJ.2 c
      refine zq_iload d_Table_win_85 rfl ?_
      refine zq_aload_n d_Table_win_87 rfl rfl ?_
      refine zm_getI fg_Table_71 d_Table_win_88 zs_Table rfl ?_
      refine zq_icmp_eq (tgt := 160) d_Table_win_91 (by decide) (fun c => ?_) (fun c => ?_)
      · have hJ := hJ.1 c
        refine zr_less (L' := [some (.ref 0), some (.ref r1), some (.int x2), some (.int x3), some (.int x4), none, none]) ⟨rfl, ⟨rfl, ⟨rfl, ⟨rfl, ⟨rfl, trivial⟩⟩⟩⟩⟩ ?_
        exact s_Table_win_L160  ih hr1 hJ
      · have hJ := hJ.2 c
        refine zq_aload_n d_Table_win_94 rfl rfl ?_
        refine zm_getI fg_Table_71 d_Table_win_95 zs_Table rfl ?_
        refine zq_aload_n d_Table_win_98 rfl rfl ?_
        refine zm_getI fg_Table_46 d_Table_win_99 zs_Table rfl ?_
        refine zq_icmp_eq (tgt := 114) d_Table_win_102 (by decide) (fun c => ?_) (fun c => ?_)
        · have hJ := hJ.1 c
          refine zr_less (L' := [some (.ref 0), some (.ref r1), some (.int x2), some (.int x3), some (.int x4), none, none]) ⟨rfl, ⟨rfl, ⟨rfl, ⟨rfl, ⟨rfl, trivial⟩⟩⟩⟩⟩ ?_
          exact s_Table_win_L114  ih hr1 hJ
        · have hJ := hJ.2 c
          refine zq_iload d_Table_win_105 rfl ?_
          refine zq_aload_n d_Table_win_107 rfl rfl ?_
          refine zm_getI fg_Table_46 d_Table_win_108 zs_Table rfl ?_
          refine zq_icmp_ne (tgt := 118) d_Table_win_111 (by decide) (fun c => ?_) (fun c => ?_)
          · have hJ := hJ.1 c
            refine zq_iconst (v := 1) d_Table_win_118 zk_i1 ?_
            refine zr_less (L' := [some (.ref 0), some (.ref r1), some (.int x2), some (.int x3), some (.int x4), none, none]) ⟨rfl, ⟨rfl, ⟨rfl, ⟨rfl, ⟨rfl, trivial⟩⟩⟩⟩⟩ ?_
            exact s_Table_win_L119  ih hr1 hJ
          · have hJ := hJ.2 c
            refine zr_less (L' := [some (.ref 0), some (.ref r1), some (.int x2), some (.int x3), some (.int x4), none, none]) ⟨rfl, ⟨rfl, ⟨rfl, ⟨rfl, ⟨rfl, trivial⟩⟩⟩⟩⟩ ?_
            exact s_Table_win_L114  ih hr1 hJ
set_option maxHeartbeats 400000 in
theorem s_Table_win {g : zk_T} {K : Int32 → zm → Prop} {m : zm} (hJ : j_Table_win  m K) : zq_Mt (zk_g g) y_Table_win 85 0 0 [.ref 0] (zm_hp m) (zm_QI K) := by
  unfold j_Table_win at hJ
  refine zq_meth (ini := false) rfl (fun h => by cases h) (Nat.le_of_ble_eq_true rfl) ?_
  refine zr_L (F := ("RiichiTable", prog_1_method_6_code, 7, (some .int), false, zq_rm 85 0 0)) (L' := [some (.ref 0), none, none, none, none, none, none]) rfl ?_
  refine zq_aload_n d_Table_win_0 rfl rfl ?_
  refine zm_getI fg_Table_22 d_Table_win_1 zs_Table rfl ?_
  refine zq_iconst (v := 1) d_Table_win_4 zk_i1 ?_
  refine zq_icmp_ne (tgt := 16) d_Table_win_5 (by decide) (fun c => ?_) (fun c => ?_)
  · have hJ := hJ.1 c
    refine zr_less (L' := [some (.ref 0), none, none, none, none, none, none]) ⟨rfl, trivial⟩ ?_
    exact s_Table_win_L16    hJ
  · have hJ := hJ.2 c
    refine zq_aload_n d_Table_win_8 rfl rfl ?_
    refine zm_getI fg_Table_26 d_Table_win_9 zs_Table rfl ?_
    refine zq_iconst (v := (-1)) d_Table_win_12 zk_im1 ?_
    refine zq_icmp_ne (tgt := 18) d_Table_win_13 (by decide) (fun c => ?_) (fun c => ?_)
    · have hJ := hJ.1 c
      refine zq_aload_n d_Table_win_18 rfl rfl ?_
      refine zq_aload_n d_Table_win_19 rfl rfl ?_
      refine zm_getI fg_Table_71 d_Table_win_20 zs_Table rfl ?_
      refine zq_iconst (v := 1) d_Table_win_23 zk_i1 ?_
      refine zr_cvV (q := 0) (as := [.int (m.1 0 8), .int 1]) (st := []) d_Table_win_24 cc_Table_123 cv_Table_showHand zs_Table (s_Table_showHand  hJ) rfl ⟨Nat.le_of_ble_eq_true rfl, Nat.le_of_ble_eq_true rfl⟩ (Nat.le_of_ble_eq_true rfl) ⟨Nat.le_refl _, Nat.le_refl _⟩ rfl (fun m1 hJ => ?_)
      refine zq_aload_n d_Table_win_27 rfl rfl ?_
      refine zm_getR fg_Table_18 d_Table_win_28 zs_Table rfl ?_
      refine zr_cvI (q := 2) (as := []) (st := []) d_Table_win_31 cc_Table_127 cv_Judge_findBest zs_Judge (s_Judge_findBest  hJ) rfl ⟨Nat.le_of_ble_eq_true rfl, Nat.le_of_ble_eq_true rfl⟩ (Nat.le_of_ble_eq_true rfl) ⟨Nat.le_refl _, Nat.le_refl _⟩ rfl (fun r3 m2 hJ => ?_)
      refine zq_if_ne (tgt := 39) d_Table_win_34 (by decide) (fun c => ?_) (fun c => ?_)
      · have hJ := hJ.1 c
        refine zq_aload_n d_Table_win_39 rfl rfl ?_
        refine zm_getR fg_Table_11 d_Table_win_40 zs_Table rfl ?_
        refine zq_aload_n d_Table_win_43 rfl rfl ?_
        refine zm_getI fg_Table_71 d_Table_win_44 zs_Table rfl ?_
        obtain ⟨hb4, hJ⟩ := hJ
        refine zm_pld d_Table_win_47 hb4 ?_
        refine zr_topr (fun y5 hy5 => ?_)
        have hJ := hJ y5 hy5
        refine zr_astore_n (L' := [some (.ref 0), some (.ref y5), none, none, none, none, none]) d_Table_win_48 rfl (Nat.le_of_ble_eq_true rfl) rfl ?_
        refine zq_aload_n d_Table_win_49 rfl rfl ?_
        refine zm_getR fg_Table_130 d_Table_win_50 (hy5.symm ▸ (zm_pl_of hb4) : zm_pl y5).s rfl ?_
        refine zq_aload_n d_Table_win_53 rfl rfl ?_
        refine zm_getR fg_Table_18 d_Table_win_54 zs_Table rfl ?_
        refine zm_getR fg_Table_134 d_Table_win_57 zs_Judge rfl ?_
        refine zr_cvV (q := (y5 + 4)) (as := [.ref 10]) (st := []) d_Table_win_60 cc_Table_137 cv_Worth_copy (zm_pl.w (hy5.symm ▸ (zm_pl_of hb4) : zm_pl y5)).s (s_Worth_copy (zm_pl.w (hy5.symm ▸ (zm_pl_of hb4) : zm_pl y5)) zw_10 hJ) rfl ⟨Nat.le_of_ble_eq_true rfl, Nat.le_of_ble_eq_true rfl⟩ (Nat.le_of_ble_eq_true rfl) ⟨Nat.le_refl _, Nat.le_refl _⟩ rfl (fun m6 hJ => ?_)
        refine zq_aload_n d_Table_win_63 rfl rfl ?_
        refine zm_getR fg_Table_130 d_Table_win_64 (hy5.symm ▸ (zm_pl_of hb4) : zm_pl y5).s rfl ?_
        refine zm_getI fg_Table_143 d_Table_win_67 (zm_pl.w (hy5.symm ▸ (zm_pl_of hb4) : zm_pl y5)).s rfl ?_
        refine zr_topi (fun y7 hy7 => ?_)
        have hJ := hJ y7 hy7
        refine zr_istore_n (L' := [some (.ref 0), some (.ref y5), some (.int y7), none, none, none, none]) d_Table_win_70 rfl (Nat.le_of_ble_eq_true rfl) rfl ?_
        refine zq_aload_n d_Table_win_71 rfl rfl ?_
        refine zr_cvI (q := 0) (as := []) (st := []) d_Table_win_72 cc_Table_146 cv_Table_takeSticks zs_Table (s_Table_takeSticks  hJ) rfl ⟨Nat.le_of_ble_eq_true rfl, Nat.le_of_ble_eq_true rfl⟩ (Nat.le_of_ble_eq_true rfl) ⟨Nat.le_refl _, Nat.le_refl _⟩ rfl (fun r9 m8 hJ => ?_)
        refine zr_istore_n (L' := [some (.ref 0), some (.ref y5), some (.int y7), some (.int r9), none, none, none]) d_Table_win_75 rfl (Nat.le_of_ble_eq_true rfl) rfl ?_
        refine zq_iconst (v := 0) d_Table_win_76 zk_i0 ?_
        refine zr_istore (L' := [some (.ref 0), some (.ref y5), some (.int y7), some (.int r9), some (.int 0), none, none]) d_Table_win_77 (Nat.le_of_ble_eq_true rfl) rfl ?_
        refine zr_less (L' := [some (.ref 0), some (.ref y5), some (.int y7), some (.int r9), some (.int 0), none, none]) ⟨rfl, ⟨rfl, ⟨rfl, ⟨rfl, ⟨rfl, trivial⟩⟩⟩⟩⟩ ?_
        obtain ⟨n79, hJ⟩ := hJ
        exact s_Table_win_L79   n79 (hy5.symm ▸ (zm_pl_of hb4) : zm_pl y5) hJ
      · have hJ := hJ.2 c
        refine zq_iconst (v := (-1)) d_Table_win_37 zk_im1 ?_
        exact zq_iret d_Table_win_38 rfl rfl (Nat.le_refl _) (Nat.le_refl _) ⟨_, _, rfl, rfl, hJ⟩
    · have hJ := hJ.2 c
      refine zr_less (L' := [some (.ref 0), none, none, none, none, none, none]) ⟨rfl, trivial⟩ ?_
      exact s_Table_win_L16    hJ
set_option maxHeartbeats 400000 in
theorem s_Table_isPlayer_L14 {g : zk_T} {a0 : Int32} {K : Int32 → zm → Prop} {t0 : Int32} {m : zm} (hJ : j_Table_isPlayer_L14 a0  K t0 m) : zq_V (zk_g g) ("RiichiTable", prog_1_method_23_code, 1, (some .boolean), false, zq_rm 0 0 0) 0 0 14 [some (.int a0)] [.int t0] (zm_hp m) (zm_QI K) := by
  unfold j_Table_isPlayer_L14 at hJ
  exact zq_iret d_Table_isPlayer_14 rfl hJ.1.nar (Nat.le_refl _) (Nat.le_refl _) ⟨_, _, rfl, rfl, hJ.2⟩
set_option maxHeartbeats 400000 in
theorem s_Table_isPlayer_L13 {g : zk_T} {a0 : Int32} {K : Int32 → zm → Prop} {m : zm} (hJ : j_Table_isPlayer_L13 a0  K  m) : zq_V (zk_g g) ("RiichiTable", prog_1_method_23_code, 1, (some .boolean), false, zq_rm 0 0 0) 0 0 13 [some (.int a0)] [] (zm_hp m) (zm_QI K) := by
  unfold j_Table_isPlayer_L13 at hJ
  refine zq_iconst (v := 0) d_Table_isPlayer_13 zk_i0 ?_
  refine zr_less (L' := [some (.int a0)]) ⟨rfl, trivial⟩ ?_
  exact s_Table_isPlayer_L14    hJ
set_option maxHeartbeats 400000 in
theorem s_Table_isPlayer {g : zk_T} {a0 : Int32} {K : Int32 → zm → Prop} {m : zm} (hJ : j_Table_isPlayer a0 m K) : zq_Mt (zk_g g) y_Table_isPlayer 0 0 0 [.int a0] (zm_hp m) (zm_QI K) := by
  unfold j_Table_isPlayer at hJ
  refine zq_meth (ini := false) rfl (fun h => by cases h) (Nat.le_of_ble_eq_true rfl) ?_
  refine zr_L (F := ("RiichiTable", prog_1_method_23_code, 1, (some .boolean), false, zq_rm 0 0 0)) (L' := [some (.int a0)]) rfl ?_
  refine zq_iload_n d_Table_isPlayer_0 rfl rfl ?_
  refine zq_if_lt (tgt := 13) d_Table_isPlayer_1 (by decide) (fun c => ?_) (fun c => ?_)
  · have hJ := hJ.1 c
    refine zr_less (L' := [some (.int a0)]) ⟨rfl, trivial⟩ ?_
    exact s_Table_isPlayer_L13    hJ
  · have hJ := hJ.2 c
    refine zq_iload_n d_Table_isPlayer_4 rfl rfl ?_
    refine zq_iconst (v := 4) d_Table_isPlayer_5 zk_i4 ?_
    refine zq_icmp_ge (tgt := 13) d_Table_isPlayer_6 (by decide) (fun c => ?_) (fun c => ?_)
    · have hJ := hJ.1 c
      refine zr_less (L' := [some (.int a0)]) ⟨rfl, trivial⟩ ?_
      exact s_Table_isPlayer_L13    hJ
    · have hJ := hJ.2 c
      refine zq_iconst (v := 1) d_Table_isPlayer_9 zk_i1 ?_
      refine zq_goto (tgt := 14) d_Table_isPlayer_10 (by decide) ?_
      refine zr_less (L' := [some (.int a0)]) ⟨rfl, trivial⟩ ?_
      exact s_Table_isPlayer_L14    hJ
set_option maxHeartbeats 400000 in
theorem s_Table_options_L30 {g : zk_T} {a1 : Int32} {K : Int32 → zm → Prop} {t0 : Int32} {m : zm} (hJ : j_Table_options_L30 a1  K t0 m) : zq_V (zk_g g) ("RiichiTable", prog_1_method_7_code, 2, (some .int), false, zq_rm 1 0 0) 0 0 30 [some (.ref 0), some (.int a1)] [.int t0] (zm_hp m) (zm_QI K) := by
  unfold j_Table_options_L30 at hJ
  exact zq_iret d_Table_options_30 rfl rfl (Nat.le_refl _) (Nat.le_refl _) ⟨_, _, rfl, rfl, hJ⟩
set_option maxHeartbeats 400000 in
theorem s_Table_options {g : zk_T} {a1 : Int32} {K : Int32 → zm → Prop} {m : zm} (hJ : j_Table_options a1 m K) : zq_Mt (zk_g g) y_Table_options 1 0 0 [.ref 0, .int a1] (zm_hp m) (zm_QI K) := by
  unfold j_Table_options at hJ
  refine zq_meth (ini := false) rfl (fun h => by cases h) (Nat.le_of_ble_eq_true rfl) ?_
  refine zr_L (F := ("RiichiTable", prog_1_method_7_code, 2, (some .int), false, zq_rm 1 0 0)) (L' := [some (.ref 0), some (.int a1)]) rfl ?_
  refine zq_iload_n d_Table_options_0 rfl rfl ?_
  refine zr_csI (as := [.int a1]) (st := []) d_Table_options_1 cc_Table_169 cs_Table_isPlayer (s_Table_isPlayer  hJ) rfl ⟨Nat.le_of_ble_eq_true rfl, Nat.le_of_ble_eq_true rfl⟩ (Nat.le_of_ble_eq_true rfl) ⟨Nat.le_refl _, Nat.le_refl _⟩ rfl (fun r2 m1 hJ => ?_)
  refine zq_if_ne (tgt := 9) d_Table_options_4 (by decide) (fun c => ?_) (fun c => ?_)
  · have hJ := hJ.1 c
    refine zq_aload_n d_Table_options_9 rfl rfl ?_
    refine zm_getI fg_Table_22 d_Table_options_10 zs_Table rfl ?_
    refine zq_iconst (v := 2) d_Table_options_13 zk_i2 ?_
    refine zq_icmp_ne (tgt := 29) d_Table_options_14 (by decide) (fun c => ?_) (fun c => ?_)
    · have hJ := hJ.1 c
      refine zq_iconst (v := 0) d_Table_options_29 zk_i0 ?_
      refine zr_less (L' := [some (.ref 0), some (.int a1)]) ⟨rfl, ⟨rfl, trivial⟩⟩ ?_
      exact s_Table_options_L30    hJ
    · have hJ := hJ.2 c
      refine zq_aload_n d_Table_options_17 rfl rfl ?_
      refine zm_getR fg_Table_11 d_Table_options_18 zs_Table rfl ?_
      refine zq_iload_n d_Table_options_21 rfl rfl ?_
      obtain ⟨hb3, hJ⟩ := hJ
      refine zm_pld d_Table_options_22 hb3 ?_
      refine zm_getI fg_Table_172 d_Table_options_23 (zm_pl_of hb3).s rfl ?_
      refine zq_goto (tgt := 30) d_Table_options_26 (by decide) ?_
      refine zr_less (L' := [some (.ref 0), some (.int a1)]) ⟨rfl, ⟨rfl, trivial⟩⟩ ?_
      exact s_Table_options_L30    hJ
  · have hJ := hJ.2 c
    refine zq_iconst (v := (-1)) d_Table_options_7 zk_im1 ?_
    exact zq_iret d_Table_options_8 rfl rfl (Nat.le_refl _) (Nat.le_refl _) ⟨_, _, rfl, rfl, hJ⟩
set_option maxHeartbeats 400000 in
theorem s_Table_mayAnswer_L64 {g : zk_T} {r1 : Nat} {a2 : Int32} {a3 : Int32} (hr1 : zm_pl r1) {K : Int32 → zm → Prop} {t0 : Int32} {m : zm} (hJ : j_Table_mayAnswer_L64 r1 a2 a3  K t0 m) : zq_V (zk_g g) ("RiichiTable", prog_1_method_32_code, 4, (some .boolean), false, zq_rm 1 0 0) 0 0 64 [some (.ref 0), some (.ref r1), some (.int a2), some (.int a3)] [.int t0] (zm_hp m) (zm_QI K) := by
  unfold j_Table_mayAnswer_L64 at hJ
  exact zq_iret d_Table_mayAnswer_64 rfl hJ.1.nar (Nat.le_refl _) (Nat.le_refl _) ⟨_, _, rfl, rfl, hJ.2⟩
set_option maxHeartbeats 400000 in
theorem s_Table_mayAnswer_L63 {g : zk_T} {r1 : Nat} {a2 : Int32} {a3 : Int32} (hr1 : zm_pl r1) {K : Int32 → zm → Prop} {m : zm} (hJ : j_Table_mayAnswer_L63 r1 a2 a3  K  m) : zq_V (zk_g g) ("RiichiTable", prog_1_method_32_code, 4, (some .boolean), false, zq_rm 1 0 0) 0 0 63 [some (.ref 0), some (.ref r1), some (.int a2), some (.int a3)] [] (zm_hp m) (zm_QI K) := by
  unfold j_Table_mayAnswer_L63 at hJ
  refine zq_iconst (v := 0) d_Table_mayAnswer_63 zk_i0 ?_
  refine zr_less (L' := [some (.ref 0), some (.ref r1), some (.int a2), some (.int a3)]) ⟨rfl, ⟨rfl, ⟨rfl, ⟨rfl, trivial⟩⟩⟩⟩ ?_
  exact s_Table_mayAnswer_L64 hr1   hJ
set_option maxHeartbeats 400000 in
theorem s_Table_mayAnswer_L79 {g : zk_T} {r1 : Nat} {a2 : Int32} {a3 : Int32} (hr1 : zm_pl r1) {K : Int32 → zm → Prop} {t0 : Int32} {m : zm} (hJ : j_Table_mayAnswer_L79 r1 a2 a3  K t0 m) : zq_V (zk_g g) ("RiichiTable", prog_1_method_32_code, 4, (some .boolean), false, zq_rm 1 0 0) 0 0 79 [some (.ref 0), some (.ref r1), some (.int a2), some (.int a3)] [.int t0] (zm_hp m) (zm_QI K) := by
  unfold j_Table_mayAnswer_L79 at hJ
  exact zq_iret d_Table_mayAnswer_79 rfl hJ.1.nar (Nat.le_refl _) (Nat.le_refl _) ⟨_, _, rfl, rfl, hJ.2⟩
set_option maxHeartbeats 400000 in
theorem s_Table_mayAnswer_L95 {g : zk_T} {r1 : Nat} {a2 : Int32} {a3 : Int32} (hr1 : zm_pl r1) {K : Int32 → zm → Prop} {t0 : Int32} {m : zm} (hJ : j_Table_mayAnswer_L95 r1 a2 a3  K t0 m) : zq_V (zk_g g) ("RiichiTable", prog_1_method_32_code, 4, (some .boolean), false, zq_rm 1 0 0) 0 0 95 [some (.ref 0), some (.ref r1), some (.int a2), some (.int a3)] [.int t0] (zm_hp m) (zm_QI K) := by
  unfold j_Table_mayAnswer_L95 at hJ
  exact zq_iret d_Table_mayAnswer_95 rfl hJ.1.nar (Nat.le_refl _) (Nat.le_refl _) ⟨_, _, rfl, rfl, hJ.2⟩
set_option maxHeartbeats 400000 in
theorem s_Table_mayAnswer_L111 {g : zk_T} {r1 : Nat} {a2 : Int32} {a3 : Int32} (hr1 : zm_pl r1) {K : Int32 → zm → Prop} {t0 : Int32} {m : zm} (hJ : j_Table_mayAnswer_L111 r1 a2 a3  K t0 m) : zq_V (zk_g g) ("RiichiTable", prog_1_method_32_code, 4, (some .boolean), false, zq_rm 1 0 0) 0 0 111 [some (.ref 0), some (.ref r1), some (.int a2), some (.int a3)] [.int t0] (zm_hp m) (zm_QI K) := by
  unfold j_Table_mayAnswer_L111 at hJ
  exact zq_iret d_Table_mayAnswer_111 rfl hJ.1.nar (Nat.le_refl _) (Nat.le_refl _) ⟨_, _, rfl, rfl, hJ.2⟩
set_option maxHeartbeats 400000 in
theorem s_Table_mayAnswer {g : zk_T} {r1 : Nat} {a2 : Int32} {a3 : Int32} (hr1 : zm_pl r1) {K : Int32 → zm → Prop} {m : zm} (hJ : j_Table_mayAnswer r1 a2 a3 m K) : zq_Mt (zk_g g) y_Table_mayAnswer 1 0 0 [.ref 0, .ref r1, .int a2, .int a3] (zm_hp m) (zm_QI K) := by
  unfold j_Table_mayAnswer at hJ
  refine zq_meth (ini := false) rfl (fun h => by cases h) (Nat.le_of_ble_eq_true rfl) ?_
  refine zr_L (F := ("RiichiTable", prog_1_method_32_code, 4, (some .boolean), false, zq_rm 1 0 0)) (L' := [some (.ref 0), some (.ref r1), some (.int a2), some (.int a3)]) rfl ?_
  refine zq_iload_n d_Table_mayAnswer_0 rfl rfl ?_
  rcases Classical.em (Int32.toInt a2 < 0 ∨ ((4 : Nat) : Int) < Int32.toInt a2) with hsw | hsw
  · have hJ := hJ.1 hsw
    refine zq_swOut (tgt := 112) d_Table_mayAnswer_1 hsw (by decide) ?_
    refine zq_iconst (v := 0) d_Table_mayAnswer_112 zk_i0 ?_
    exact zq_iret d_Table_mayAnswer_113 rfl (zm_isB.nar (Or.inl rfl)) (Nat.le_refl _) (Nat.le_refl _) ⟨_, _, rfl, rfl, hJ⟩
  · obtain ⟨jsw, hj1, hj2, hj3⟩ := zr_sw (by decide) hsw
    have hJ := hJ.2
    match jsw, hj1, hj2, hj3 with
    | 0, _, hj2, hj3 =>
      have hJ := hJ.1 hj2
      refine zq_swIn (tgt := 36) d_Table_mayAnswer_1 (fun h => hsw (Or.inl h)) (fun h => hsw (Or.inr h)) (off := 35) (by rw [hj3]; rfl) (by decide) ?_
      refine zq_iconst (v := 1) d_Table_mayAnswer_36 zk_i1 ?_
      exact zq_iret d_Table_mayAnswer_37 rfl (zm_isB.nar (Or.inr rfl)) (Nat.le_refl _) (Nat.le_refl _) ⟨_, _, rfl, rfl, hJ⟩
    | 1, _, hj2, hj3 =>
      have hJ := hJ.2.1 hj2
      refine zq_swIn (tgt := 38) d_Table_mayAnswer_1 (fun h => hsw (Or.inl h)) (fun h => hsw (Or.inr h)) (off := 37) (by rw [hj3]; rfl) (by decide) ?_
      refine zq_aload_n d_Table_mayAnswer_38 rfl rfl ?_
      refine zm_getI fg_Table_172 d_Table_mayAnswer_39 hr1.s rfl ?_
      refine zq_iconst (v := 2) d_Table_mayAnswer_42 zk_i2 ?_
      refine zq_iand d_Table_mayAnswer_43 ?_
      refine zq_if_eq (tgt := 63) d_Table_mayAnswer_44 (by decide) (fun c => ?_) (fun c => ?_)
      · have hJ := hJ.1 c
        refine zr_less (L' := [some (.ref 0), some (.ref r1), some (.int a2), some (.int a3)]) ⟨rfl, ⟨rfl, ⟨rfl, ⟨rfl, trivial⟩⟩⟩⟩ ?_
        exact s_Table_mayAnswer_L63 hr1   hJ
      · have hJ := hJ.2 c
        refine zq_aload_n d_Table_mayAnswer_47 rfl rfl ?_
        refine zq_iload_n d_Table_mayAnswer_48 rfl rfl ?_
        refine zq_aload_n d_Table_mayAnswer_49 rfl rfl ?_
        refine zm_getI fg_Table_26 d_Table_mayAnswer_50 zs_Table rfl ?_
        refine zr_cvI (q := r1) (as := [.int a3, .int (m.1 0 9)]) (st := []) d_Table_mayAnswer_53 cc_Table_235 cv_Player_hasRestOfRun hr1.s (s_Player_hasRestOfRun hr1 hJ) rfl ⟨Nat.le_of_ble_eq_true rfl, Nat.le_of_ble_eq_true rfl⟩ (Nat.le_of_ble_eq_true rfl) ⟨Nat.le_refl _, Nat.le_refl _⟩ rfl (fun r2 m1 hJ => ?_)
        refine zq_if_eq (tgt := 63) d_Table_mayAnswer_56 (by decide) (fun c => ?_) (fun c => ?_)
        · have hJ := hJ.1 c
          refine zr_less (L' := [some (.ref 0), some (.ref r1), some (.int a2), some (.int a3)]) ⟨rfl, ⟨rfl, ⟨rfl, ⟨rfl, trivial⟩⟩⟩⟩ ?_
          exact s_Table_mayAnswer_L63 hr1   hJ
        · have hJ := hJ.2 c
          refine zq_iconst (v := 1) d_Table_mayAnswer_59 zk_i1 ?_
          refine zq_goto (tgt := 64) d_Table_mayAnswer_60 (by decide) ?_
          refine zr_less (L' := [some (.ref 0), some (.ref r1), some (.int a2), some (.int a3)]) ⟨rfl, ⟨rfl, ⟨rfl, ⟨rfl, trivial⟩⟩⟩⟩ ?_
          exact s_Table_mayAnswer_L64 hr1   hJ
    | 2, _, hj2, hj3 =>
      have hJ := hJ.2.2.1 hj2
      refine zq_swIn (tgt := 65) d_Table_mayAnswer_1 (fun h => hsw (Or.inl h)) (fun h => hsw (Or.inr h)) (off := 64) (by rw [hj3]; rfl) (by decide) ?_
      refine zq_aload_n d_Table_mayAnswer_65 rfl rfl ?_
      refine zm_getI fg_Table_172 d_Table_mayAnswer_66 hr1.s rfl ?_
      refine zq_iconst (v := 4) d_Table_mayAnswer_69 zk_i4 ?_
      refine zq_iand d_Table_mayAnswer_70 ?_
      refine zq_if_eq (tgt := 78) d_Table_mayAnswer_71 (by decide) (fun c => ?_) (fun c => ?_)
      · have hJ := hJ.1 c
        refine zq_iconst (v := 0) d_Table_mayAnswer_78 zk_i0 ?_
        refine zr_less (L' := [some (.ref 0), some (.ref r1), some (.int a2), some (.int a3)]) ⟨rfl, ⟨rfl, ⟨rfl, ⟨rfl, trivial⟩⟩⟩⟩ ?_
        exact s_Table_mayAnswer_L79 hr1   hJ
      · have hJ := hJ.2 c
        refine zq_iconst (v := 1) d_Table_mayAnswer_74 zk_i1 ?_
        refine zq_goto (tgt := 79) d_Table_mayAnswer_75 (by decide) ?_
        refine zr_less (L' := [some (.ref 0), some (.ref r1), some (.int a2), some (.int a3)]) ⟨rfl, ⟨rfl, ⟨rfl, ⟨rfl, trivial⟩⟩⟩⟩ ?_
        exact s_Table_mayAnswer_L79 hr1   hJ
    | 3, _, hj2, hj3 =>
      have hJ := hJ.2.2.2.1 hj2
      refine zq_swIn (tgt := 80) d_Table_mayAnswer_1 (fun h => hsw (Or.inl h)) (fun h => hsw (Or.inr h)) (off := 79) (by rw [hj3]; rfl) (by decide) ?_
      refine zq_aload_n d_Table_mayAnswer_80 rfl rfl ?_
      refine zm_getI fg_Table_172 d_Table_mayAnswer_81 hr1.s rfl ?_
      refine zq_bipush (v := 8) d_Table_mayAnswer_84 zk_b8 ?_
      refine zq_iand d_Table_mayAnswer_86 ?_
      refine zq_if_eq (tgt := 94) d_Table_mayAnswer_87 (by decide) (fun c => ?_) (fun c => ?_)
      · have hJ := hJ.1 c
        refine zq_iconst (v := 0) d_Table_mayAnswer_94 zk_i0 ?_
        refine zr_less (L' := [some (.ref 0), some (.ref r1), some (.int a2), some (.int a3)]) ⟨rfl, ⟨rfl, ⟨rfl, ⟨rfl, trivial⟩⟩⟩⟩ ?_
        exact s_Table_mayAnswer_L95 hr1   hJ
      · have hJ := hJ.2 c
        refine zq_iconst (v := 1) d_Table_mayAnswer_90 zk_i1 ?_
        refine zq_goto (tgt := 95) d_Table_mayAnswer_91 (by decide) ?_
        refine zr_less (L' := [some (.ref 0), some (.ref r1), some (.int a2), some (.int a3)]) ⟨rfl, ⟨rfl, ⟨rfl, ⟨rfl, trivial⟩⟩⟩⟩ ?_
        exact s_Table_mayAnswer_L95 hr1   hJ
    | 4, _, hj2, hj3 =>
      have hJ := hJ.2.2.2.2 hj2
      refine zq_swIn (tgt := 96) d_Table_mayAnswer_1 (fun h => hsw (Or.inl h)) (fun h => hsw (Or.inr h)) (off := 95) (by rw [hj3]; rfl) (by decide) ?_
      refine zq_aload_n d_Table_mayAnswer_96 rfl rfl ?_
      refine zm_getI fg_Table_172 d_Table_mayAnswer_97 hr1.s rfl ?_
      refine zq_bipush (v := 16) d_Table_mayAnswer_100 zk_b16 ?_
      refine zq_iand d_Table_mayAnswer_102 ?_
      refine zq_if_eq (tgt := 110) d_Table_mayAnswer_103 (by decide) (fun c => ?_) (fun c => ?_)
      · have hJ := hJ.1 c
        refine zq_iconst (v := 0) d_Table_mayAnswer_110 zk_i0 ?_
        refine zr_less (L' := [some (.ref 0), some (.ref r1), some (.int a2), some (.int a3)]) ⟨rfl, ⟨rfl, ⟨rfl, ⟨rfl, trivial⟩⟩⟩⟩ ?_
        exact s_Table_mayAnswer_L111 hr1   hJ
      · have hJ := hJ.2 c
        refine zq_iconst (v := 1) d_Table_mayAnswer_106 zk_i1 ?_
        refine zq_goto (tgt := 111) d_Table_mayAnswer_107 (by decide) ?_
        refine zr_less (L' := [some (.ref 0), some (.ref r1), some (.int a2), some (.int a3)]) ⟨rfl, ⟨rfl, ⟨rfl, ⟨rfl, trivial⟩⟩⟩⟩ ?_
        exact s_Table_mayAnswer_L111 hr1   hJ
    | jsw + 5, hj1, _, _ => exact absurd hj1 (by omega)
set_option maxHeartbeats 400000 in
theorem s_Table_claim_L15 {g : zk_T} {a1 : Int32} {a2 : Int32} {a3 : Int32} {K : Int32 → zm → Prop} {m : zm} (hJ : j_Table_claim_L15 a1 a2 a3  K  m) : zq_V (zk_g g) ("RiichiTable", prog_1_method_8_code, 5, (some .int), false, zq_rm 87 0 0) 0 0 15 [some (.ref 0), some (.int a1), some (.int a2), some (.int a3), none] [] (zm_hp m) (zm_QI K) := by
  unfold j_Table_claim_L15 at hJ
  refine zq_iconst (v := (-1)) d_Table_claim_15 zk_im1 ?_
  exact zq_iret d_Table_claim_16 rfl rfl (Nat.le_refl _) (Nat.le_refl _) ⟨_, _, rfl, rfl, hJ⟩
set_option maxHeartbeats 400000 in
theorem s_Table_claim_L44 {g : zk_T} {a1 : Int32} {a2 : Int32} {a3 : Int32} {K : Int32 → zm → Prop} {m : zm} (hJ : j_Table_claim_L44 a1 a2 a3  K  m) : zq_V (zk_g g) ("RiichiTable", prog_1_method_8_code, 5, (some .int), false, zq_rm 87 0 0) 0 0 44 [some (.ref 0), some (.int a1), some (.int a2), some (.int a3), none] [] (zm_hp m) (zm_QI K) := by
  unfold j_Table_claim_L44 at hJ
  refine zq_iconst (v := (-1)) d_Table_claim_44 zk_im1 ?_
  exact zq_iret d_Table_claim_45 rfl rfl (Nat.le_refl _) (Nat.le_refl _) ⟨_, _, rfl, rfl, hJ⟩
set_option maxHeartbeats 400000 in
theorem s_Table_claim_L75 {g : zk_T} {a1 : Int32} {a2 : Int32} {a3 : Int32} {K : Int32 → zm → Prop} {m : zm} (hJ : j_Table_claim_L75 a1 a2 a3  K  m) : zq_V (zk_g g) ("RiichiTable", prog_1_method_8_code, 5, (some .int), false, zq_rm 87 0 0) 0 0 75 [some (.ref 0), some (.int a1), some (.int a2), some (.int a3), none] [] (zm_hp m) (zm_QI K) := by
  unfold j_Table_claim_L75 at hJ
  refine zq_aload_n d_Table_claim_75 rfl rfl ?_
  refine zm_getI fg_Table_22 d_Table_claim_76 zs_Table rfl ?_
  exact zq_iret d_Table_claim_79 rfl rfl (Nat.le_refl _) (Nat.le_refl _) ⟨_, _, rfl, rfl, hJ⟩
set_option maxHeartbeats 400000 in
theorem s_Table_claim {g : zk_T} {a1 : Int32} {a2 : Int32} {a3 : Int32} {K : Int32 → zm → Prop} {m : zm} (hJ : j_Table_claim a1 a2 a3 m K) : zq_Mt (zk_g g) y_Table_claim 87 0 0 [.ref 0, .int a1, .int a2, .int a3] (zm_hp m) (zm_QI K) := by
  unfold j_Table_claim at hJ
  refine zq_meth (ini := false) rfl (fun h => by cases h) (Nat.le_of_ble_eq_true rfl) ?_
  refine zr_L (F := ("RiichiTable", prog_1_method_8_code, 5, (some .int), false, zq_rm 87 0 0)) (L' := [some (.ref 0), some (.int a1), some (.int a2), some (.int a3), none]) rfl ?_
  refine zq_aload_n d_Table_claim_0 rfl rfl ?_
  refine zm_getI fg_Table_22 d_Table_claim_1 zs_Table rfl ?_
  refine zq_iconst (v := 2) d_Table_claim_4 zk_i2 ?_
  refine zq_icmp_ne (tgt := 15) d_Table_claim_5 (by decide) (fun c => ?_) (fun c => ?_)
  · have hJ := hJ.1 c
    refine zr_less (L' := [some (.ref 0), some (.int a1), some (.int a2), some (.int a3), none]) ⟨rfl, ⟨rfl, ⟨rfl, ⟨rfl, trivial⟩⟩⟩⟩ ?_
    exact s_Table_claim_L15    hJ
  · have hJ := hJ.2 c
    refine zq_iload_n d_Table_claim_8 rfl rfl ?_
    refine zr_csI (as := [.int a1]) (st := []) d_Table_claim_9 cc_Table_169 cs_Table_isPlayer (s_Table_isPlayer  hJ) rfl ⟨Nat.le_of_ble_eq_true rfl, Nat.le_of_ble_eq_true rfl⟩ (Nat.le_of_ble_eq_true rfl) ⟨Nat.le_refl _, Nat.le_refl _⟩ rfl (fun r2 m1 hJ => ?_)
    refine zq_if_ne (tgt := 17) d_Table_claim_12 (by decide) (fun c => ?_) (fun c => ?_)
    · have hJ := hJ.1 c
      refine zq_aload_n d_Table_claim_17 rfl rfl ?_
      refine zm_getR fg_Table_11 d_Table_claim_18 zs_Table rfl ?_
      refine zq_iload_n d_Table_claim_21 rfl rfl ?_
      obtain ⟨hb3, hJ⟩ := hJ
      refine zm_pld d_Table_claim_22 hb3 ?_
      refine zr_topr (fun y4 hy4 => ?_)
      have hJ := hJ y4 hy4
      refine zr_astore (L' := [some (.ref 0), some (.int a1), some (.int a2), some (.int a3), some (.ref y4)]) d_Table_claim_23 (Nat.le_of_ble_eq_true rfl) rfl ?_
      refine zq_aload d_Table_claim_25 rfl ?_
      refine zm_getI fg_Table_172 d_Table_claim_27 (hy4.symm ▸ (zm_pl_of hb3) : zm_pl y4).s rfl ?_
      refine zq_if_eq (tgt := 44) d_Table_claim_30 (by decide) (fun c => ?_) (fun c => ?_)
      · have hJ := hJ.1 c
        refine zr_less (L' := [some (.ref 0), some (.int a1), some (.int a2), some (.int a3), none]) ⟨rfl, ⟨rfl, ⟨rfl, ⟨rfl, trivial⟩⟩⟩⟩ ?_
        exact s_Table_claim_L44    hJ
      · have hJ := hJ.2 c
        refine zq_aload_n d_Table_claim_33 rfl rfl ?_
        refine zq_aload d_Table_claim_34 rfl ?_
        refine zq_iload_n d_Table_claim_36 rfl rfl ?_
        refine zq_iload_n d_Table_claim_37 rfl rfl ?_
        refine zr_cvI (q := 0) (as := [.ref y4, .int a2, .int a3]) (st := []) d_Table_claim_38 cc_Table_175 cv_Table_mayAnswer zs_Table (s_Table_mayAnswer (hy4.symm ▸ (zm_pl_of hb3) : zm_pl y4) hJ) rfl ⟨Nat.le_of_ble_eq_true rfl, Nat.le_of_ble_eq_true rfl⟩ (Nat.le_of_ble_eq_true rfl) ⟨Nat.le_refl _, Nat.le_refl _⟩ rfl (fun r6 m5 hJ => ?_)
        refine zq_if_ne (tgt := 46) d_Table_claim_41 (by decide) (fun c => ?_) (fun c => ?_)
        · have hJ := hJ.1 c
          refine zq_aload d_Table_claim_46 rfl ?_
          refine zq_iload_n d_Table_claim_48 rfl rfl ?_
          refine zr_putI fl_Table_179 d_Table_claim_49 (hy4.symm ▸ (zm_pl_of hb3) : zm_pl y4).s rfl rfl (fun m7 hm7 => ?_)
          have hJ := hJ m7 hm7
          refine zq_aload d_Table_claim_52 rfl ?_
          refine zq_iload_n d_Table_claim_54 rfl rfl ?_
          refine zr_putI fl_Table_182 d_Table_claim_55 (hy4.symm ▸ (zm_pl_of hb3) : zm_pl y4).s rfl rfl (fun m8 hm8 => ?_)
          have hJ := hJ m8 hm8
          refine zq_aload d_Table_claim_58 rfl ?_
          refine zq_iconst (v := 0) d_Table_claim_60 zk_i0 ?_
          refine zr_putI fl_Table_172 d_Table_claim_61 (hy4.symm ▸ (zm_pl_of hb3) : zm_pl y4).s rfl rfl (fun m9 hm9 => ?_)
          have hJ := hJ m9 hm9
          refine zq_aload_n d_Table_claim_64 rfl rfl ?_
          refine zr_cvI (q := 0) (as := []) (st := []) d_Table_claim_65 cc_Table_185 cv_Table_isAnswerMissing zs_Table (s_Table_isAnswerMissing  hJ) rfl ⟨Nat.le_of_ble_eq_true rfl, Nat.le_of_ble_eq_true rfl⟩ (Nat.le_of_ble_eq_true rfl) ⟨Nat.le_refl _, Nat.le_refl _⟩ rfl (fun r11 m10 hJ => ?_)
          refine zq_if_ne (tgt := 75) d_Table_claim_68 (by decide) (fun c => ?_) (fun c => ?_)
          · have hJ := hJ.1 c
            refine zr_less (L' := [some (.ref 0), some (.int a1), some (.int a2), some (.int a3), none]) ⟨rfl, ⟨rfl, ⟨rfl, ⟨rfl, trivial⟩⟩⟩⟩ ?_
            exact s_Table_claim_L75    hJ
          · have hJ := hJ.2 c
            refine zq_aload_n d_Table_claim_71 rfl rfl ?_
            refine zr_cvV (q := 0) (as := []) (st := []) d_Table_claim_72 cc_Table_100 cv_Table_settle zs_Table (s_Table_settle  hJ) rfl ⟨Nat.le_of_ble_eq_true rfl, Nat.le_of_ble_eq_true rfl⟩ (Nat.le_of_ble_eq_true rfl) ⟨Nat.le_refl _, Nat.le_refl _⟩ rfl (fun m12 hJ => ?_)
            refine zr_less (L' := [some (.ref 0), some (.int a1), some (.int a2), some (.int a3), none]) ⟨rfl, ⟨rfl, ⟨rfl, ⟨rfl, trivial⟩⟩⟩⟩ ?_
            exact s_Table_claim_L75    hJ
        · have hJ := hJ.2 c
          refine zr_less (L' := [some (.ref 0), some (.int a1), some (.int a2), some (.int a3), none]) ⟨rfl, ⟨rfl, ⟨rfl, ⟨rfl, trivial⟩⟩⟩⟩ ?_
          exact s_Table_claim_L44    hJ
    · have hJ := hJ.2 c
      refine zr_less (L' := [some (.ref 0), some (.int a1), some (.int a2), some (.int a3), none]) ⟨rfl, ⟨rfl, ⟨rfl, ⟨rfl, trivial⟩⟩⟩⟩ ?_
      exact s_Table_claim_L15    hJ
set_option maxHeartbeats 400000 in
theorem s_Table_next {g : zk_T} {K : Int32 → zm → Prop} {m : zm} (hJ : j_Table_next  m K) : zq_Mt (zk_g g) y_Table_next 3 0 0 [.ref 0] (zm_hp m) (zm_QI K) := by
  unfold j_Table_next at hJ
  refine zq_meth (ini := false) rfl (fun h => by cases h) (Nat.le_of_ble_eq_true rfl) ?_
  refine zr_L (F := ("RiichiTable", prog_1_method_9_code, 1, (some .boolean), false, zq_rm 3 0 0)) (L' := [some (.ref 0)]) rfl ?_
  refine zq_aload_n d_Table_next_0 rfl rfl ?_
  refine zm_getI fg_Table_22 d_Table_next_1 zs_Table rfl ?_
  refine zq_iconst (v := 3) d_Table_next_4 zk_i3 ?_
  refine zq_icmp_eq (tgt := 10) d_Table_next_5 (by decide) (fun c => ?_) (fun c => ?_)
  · have hJ := hJ.1 c
    refine zq_aload_n d_Table_next_10 rfl rfl ?_
    refine zm_getR fg_Table_34 d_Table_next_11 zs_Table rfl ?_
    refine zr_cvV (q := 11) (as := []) (st := []) d_Table_next_14 cc_Table_39 cv_Wall_shuffle zs_Wall (s_Wall_shuffle  hJ) rfl ⟨Nat.le_of_ble_eq_true rfl, Nat.le_of_ble_eq_true rfl⟩ (Nat.le_of_ble_eq_true rfl) ⟨Nat.le_refl _, Nat.le_refl _⟩ rfl (fun m1 hJ => ?_)
    refine zq_aload_n d_Table_next_17 rfl rfl ?_
    refine zq_iconst (v := 0) d_Table_next_18 zk_i0 ?_
    refine zr_putI fl_Table_22 d_Table_next_19 zs_Table rfl rfl (fun m2 hm2 => ?_)
    have hJ := hJ m2 hm2
    refine zq_iconst (v := 1) d_Table_next_22 zk_i1 ?_
    exact zq_iret d_Table_next_23 rfl (zm_isB.nar (Or.inr rfl)) (Nat.le_refl _) (Nat.le_refl _) ⟨_, _, rfl, rfl, hJ⟩
  · have hJ := hJ.2 c
    refine zq_iconst (v := 0) d_Table_next_8 zk_i0 ?_
    exact zq_iret d_Table_next_9 rfl (zm_isB.nar (Or.inl rfl)) (Nat.le_refl _) (Nat.le_refl _) ⟨_, _, rfl, rfl, hJ⟩
set_option maxHeartbeats 400000 in
theorem s_Table_phase {g : zk_T} {K : Int32 → zm → Prop} {m : zm} (hJ : j_Table_phase  m K) : zq_Mt (zk_g g) y_Table_phase 0 0 0 [.ref 0] (zm_hp m) (zm_QI K) := by
  unfold j_Table_phase at hJ
  refine zq_meth (ini := false) rfl (fun h => by cases h) (Nat.le_of_ble_eq_true rfl) ?_
  refine zr_L (F := ("RiichiTable", prog_1_method_10_code, 1, (some .int), false, zq_rm 0 0 0)) (L' := [some (.ref 0)]) rfl ?_
  refine zq_aload_n d_Table_phase_0 rfl rfl ?_
  refine zm_getI fg_Table_22 d_Table_phase_1 zs_Table rfl ?_
  exact zq_iret d_Table_phase_4 rfl rfl (Nat.le_refl _) (Nat.le_refl _) ⟨_, _, rfl, rfl, hJ⟩
set_option maxHeartbeats 400000 in
theorem s_Table_who_L24 {g : zk_T} {K : Int32 → zm → Prop} {t0 : Int32} {m : zm} (hJ : j_Table_who_L24   K t0 m) : zq_V (zk_g g) ("RiichiTable", prog_1_method_11_code, 1, (some .int), false, zq_rm 0 0 0) 0 0 24 [some (.ref 0)] [.int t0] (zm_hp m) (zm_QI K) := by
  unfold j_Table_who_L24 at hJ
  exact zq_iret d_Table_who_24 rfl rfl (Nat.le_refl _) (Nat.le_refl _) ⟨_, _, rfl, rfl, hJ⟩
set_option maxHeartbeats 400000 in
theorem s_Table_who_L16 {g : zk_T} {K : Int32 → zm → Prop} {m : zm} (hJ : j_Table_who_L16   K  m) : zq_V (zk_g g) ("RiichiTable", prog_1_method_11_code, 1, (some .int), false, zq_rm 0 0 0) 0 0 16 [some (.ref 0)] [] (zm_hp m) (zm_QI K) := by
  unfold j_Table_who_L16 at hJ
  refine zq_aload_n d_Table_who_16 rfl rfl ?_
  refine zm_getI fg_Table_71 d_Table_who_17 zs_Table rfl ?_
  refine zq_goto (tgt := 24) d_Table_who_20 (by decide) ?_
  refine zr_less (L' := [some (.ref 0)]) ⟨rfl, trivial⟩ ?_
  exact s_Table_who_L24    hJ
set_option maxHeartbeats 400000 in
theorem s_Table_who {g : zk_T} {K : Int32 → zm → Prop} {m : zm} (hJ : j_Table_who  m K) : zq_Mt (zk_g g) y_Table_who 0 0 0 [.ref 0] (zm_hp m) (zm_QI K) := by
  unfold j_Table_who at hJ
  refine zq_meth (ini := false) rfl (fun h => by cases h) (Nat.le_of_ble_eq_true rfl) ?_
  refine zr_L (F := ("RiichiTable", prog_1_method_11_code, 1, (some .int), false, zq_rm 0 0 0)) (L' := [some (.ref 0)]) rfl ?_
  refine zq_aload_n d_Table_who_0 rfl rfl ?_
  refine zm_getI fg_Table_22 d_Table_who_1 zs_Table rfl ?_
  refine zq_iconst (v := 1) d_Table_who_4 zk_i1 ?_
  refine zq_icmp_eq (tgt := 16) d_Table_who_5 (by decide) (fun c => ?_) (fun c => ?_)
  · have hJ := hJ.1 c
    refine zr_less (L' := [some (.ref 0)]) ⟨rfl, trivial⟩ ?_
    exact s_Table_who_L16    hJ
  · have hJ := hJ.2 c
    refine zq_aload_n d_Table_who_8 rfl rfl ?_
    refine zm_getI fg_Table_22 d_Table_who_9 zs_Table rfl ?_
    refine zq_iconst (v := 2) d_Table_who_12 zk_i2 ?_
    refine zq_icmp_ne (tgt := 23) d_Table_who_13 (by decide) (fun c => ?_) (fun c => ?_)
    · have hJ := hJ.1 c
      refine zq_iconst (v := (-1)) d_Table_who_23 zk_im1 ?_
      refine zr_less (L' := [some (.ref 0)]) ⟨rfl, trivial⟩ ?_
      exact s_Table_who_L24    hJ
    · have hJ := hJ.2 c
      refine zr_less (L' := [some (.ref 0)]) ⟨rfl, trivial⟩ ?_
      exact s_Table_who_L16    hJ
set_option maxHeartbeats 400000 in
theorem s_Table_drawn_L24 {g : zk_T} {K : Int32 → zm → Prop} {t0 : Int32} {m : zm} (hJ : j_Table_drawn_L24   K t0 m) : zq_V (zk_g g) ("RiichiTable", prog_1_method_12_code, 1, (some .int), false, zq_rm 0 0 0) 0 0 24 [some (.ref 0)] [.int t0] (zm_hp m) (zm_QI K) := by
  unfold j_Table_drawn_L24 at hJ
  exact zq_iret d_Table_drawn_24 rfl rfl (Nat.le_refl _) (Nat.le_refl _) ⟨_, _, rfl, rfl, hJ⟩
set_option maxHeartbeats 400000 in
theorem s_Table_drawn_L16 {g : zk_T} {K : Int32 → zm → Prop} {m : zm} (hJ : j_Table_drawn_L16   K  m) : zq_V (zk_g g) ("RiichiTable", prog_1_method_12_code, 1, (some .int), false, zq_rm 0 0 0) 0 0 16 [some (.ref 0)] [] (zm_hp m) (zm_QI K) := by
  unfold j_Table_drawn_L16 at hJ
  refine zq_aload_n d_Table_drawn_16 rfl rfl ?_
  refine zm_getI fg_Table_26 d_Table_drawn_17 zs_Table rfl ?_
  refine zq_goto (tgt := 24) d_Table_drawn_20 (by decide) ?_
  refine zr_less (L' := [some (.ref 0)]) ⟨rfl, trivial⟩ ?_
  exact s_Table_drawn_L24    hJ
set_option maxHeartbeats 400000 in
theorem s_Table_drawn {g : zk_T} {K : Int32 → zm → Prop} {m : zm} (hJ : j_Table_drawn  m K) : zq_Mt (zk_g g) y_Table_drawn 0 0 0 [.ref 0] (zm_hp m) (zm_QI K) := by
  unfold j_Table_drawn at hJ
  refine zq_meth (ini := false) rfl (fun h => by cases h) (Nat.le_of_ble_eq_true rfl) ?_
  refine zr_L (F := ("RiichiTable", prog_1_method_12_code, 1, (some .int), false, zq_rm 0 0 0)) (L' := [some (.ref 0)]) rfl ?_
  refine zq_aload_n d_Table_drawn_0 rfl rfl ?_
  refine zm_getI fg_Table_22 d_Table_drawn_1 zs_Table rfl ?_
  refine zq_iconst (v := 1) d_Table_drawn_4 zk_i1 ?_
  refine zq_icmp_eq (tgt := 16) d_Table_drawn_5 (by decide) (fun c => ?_) (fun c => ?_)
  · have hJ := hJ.1 c
    refine zr_less (L' := [some (.ref 0)]) ⟨rfl, trivial⟩ ?_
    exact s_Table_drawn_L16    hJ
  · have hJ := hJ.2 c
    refine zq_aload_n d_Table_drawn_8 rfl rfl ?_
    refine zm_getI fg_Table_22 d_Table_drawn_9 zs_Table rfl ?_
    refine zq_iconst (v := 2) d_Table_drawn_12 zk_i2 ?_
    refine zq_icmp_ne (tgt := 23) d_Table_drawn_13 (by decide) (fun c => ?_) (fun c => ?_)
    · have hJ := hJ.1 c
      refine zq_iconst (v := (-1)) d_Table_drawn_23 zk_im1 ?_
      refine zr_less (L' := [some (.ref 0)]) ⟨rfl, trivial⟩ ?_
      exact s_Table_drawn_L24    hJ
    · have hJ := hJ.2 c
      refine zr_less (L' := [some (.ref 0)]) ⟨rfl, trivial⟩ ?_
      exact s_Table_drawn_L16    hJ
set_option maxHeartbeats 400000 in
theorem s_Table_isHandShown_L29 {g : zk_T} {K : Int32 → zm → Prop} {t0 : Int32} {m : zm} (hJ : j_Table_isHandShown_L29   K t0 m) : zq_V (zk_g g) ("RiichiTable", prog_1_method_26_code, 1, (some .boolean), false, zq_rm 0 0 0) 0 0 29 [some (.ref 0)] [.int t0] (zm_hp m) (zm_QI K) := by
  unfold j_Table_isHandShown_L29 at hJ
  exact zq_iret d_Table_isHandShown_29 rfl hJ.1.nar (Nat.le_refl _) (Nat.le_refl _) ⟨_, _, rfl, rfl, hJ.2⟩
set_option maxHeartbeats 400000 in
theorem s_Table_isHandShown_L24 {g : zk_T} {K : Int32 → zm → Prop} {m : zm} (hJ : j_Table_isHandShown_L24   K  m) : zq_V (zk_g g) ("RiichiTable", prog_1_method_26_code, 1, (some .boolean), false, zq_rm 0 0 0) 0 0 24 [some (.ref 0)] [] (zm_hp m) (zm_QI K) := by
  unfold j_Table_isHandShown_L24 at hJ
  refine zq_iconst (v := 1) d_Table_isHandShown_24 zk_i1 ?_
  refine zq_goto (tgt := 29) d_Table_isHandShown_25 (by decide) ?_
  refine zr_less (L' := [some (.ref 0)]) ⟨rfl, trivial⟩ ?_
  exact s_Table_isHandShown_L29    hJ
set_option maxHeartbeats 400000 in
theorem s_Table_isHandShown {g : zk_T} {K : Int32 → zm → Prop} {m : zm} (hJ : j_Table_isHandShown  m K) : zq_Mt (zk_g g) y_Table_isHandShown 0 0 0 [.ref 0] (zm_hp m) (zm_QI K) := by
  unfold j_Table_isHandShown at hJ
  refine zq_meth (ini := false) rfl (fun h => by cases h) (Nat.le_of_ble_eq_true rfl) ?_
  refine zr_L (F := ("RiichiTable", prog_1_method_26_code, 1, (some .boolean), false, zq_rm 0 0 0)) (L' := [some (.ref 0)]) rfl ?_
  refine zq_aload_n d_Table_isHandShown_0 rfl rfl ?_
  refine zm_getI fg_Table_22 d_Table_isHandShown_1 zs_Table rfl ?_
  refine zq_iconst (v := 1) d_Table_isHandShown_4 zk_i1 ?_
  refine zq_icmp_eq (tgt := 24) d_Table_isHandShown_5 (by decide) (fun c => ?_) (fun c => ?_)
  · have hJ := hJ.1 c
    refine zr_less (L' := [some (.ref 0)]) ⟨rfl, trivial⟩ ?_
    exact s_Table_isHandShown_L24    hJ
  · have hJ := hJ.2 c
    refine zq_aload_n d_Table_isHandShown_8 rfl rfl ?_
    refine zm_getI fg_Table_22 d_Table_isHandShown_9 zs_Table rfl ?_
    refine zq_iconst (v := 2) d_Table_isHandShown_12 zk_i2 ?_
    refine zq_icmp_eq (tgt := 24) d_Table_isHandShown_13 (by decide) (fun c => ?_) (fun c => ?_)
    · have hJ := hJ.1 c
      refine zr_less (L' := [some (.ref 0)]) ⟨rfl, trivial⟩ ?_
      exact s_Table_isHandShown_L24    hJ
    · have hJ := hJ.2 c
      refine zq_aload_n d_Table_isHandShown_16 rfl rfl ?_
      refine zm_getI fg_Table_22 d_Table_isHandShown_17 zs_Table rfl ?_
      refine zq_iconst (v := 3) d_Table_isHandShown_20 zk_i3 ?_
      refine zq_icmp_ne (tgt := 28) d_Table_isHandShown_21 (by decide) (fun c => ?_) (fun c => ?_)
      · have hJ := hJ.1 c
        refine zq_iconst (v := 0) d_Table_isHandShown_28 zk_i0 ?_
        refine zr_less (L' := [some (.ref 0)]) ⟨rfl, trivial⟩ ?_
        exact s_Table_isHandShown_L29    hJ
      · have hJ := hJ.2 c
        refine zr_less (L' := [some (.ref 0)]) ⟨rfl, trivial⟩ ?_
        exact s_Table_isHandShown_L24    hJ
set_option maxHeartbeats 400000 in
theorem s_Table_concealed_L36 {g : zk_T} {a1 : Int32} {a2 : Int32} {K : Int32 → zm → Prop} {t0 : Int32} {m : zm} (hJ : j_Table_concealed_L36 a1 a2  K t0 m) : zq_V (zk_g g) ("RiichiTable", prog_1_method_13_code, 3, (some .int), false, zq_rm 1 0 0) 0 0 36 [some (.ref 0), some (.int a1), some (.int a2)] [.int t0] (zm_hp m) (zm_QI K) := by
  unfold j_Table_concealed_L36 at hJ
  exact zq_iret d_Table_concealed_36 rfl rfl (Nat.le_refl _) (Nat.le_refl _) ⟨_, _, rfl, rfl, hJ⟩
set_option maxHeartbeats 400000 in
theorem s_Table_concealed_L35 {g : zk_T} {a1 : Int32} {a2 : Int32} {K : Int32 → zm → Prop} {m : zm} (hJ : j_Table_concealed_L35 a1 a2  K  m) : zq_V (zk_g g) ("RiichiTable", prog_1_method_13_code, 3, (some .int), false, zq_rm 1 0 0) 0 0 35 [some (.ref 0), some (.int a1), some (.int a2)] [] (zm_hp m) (zm_QI K) := by
  unfold j_Table_concealed_L35 at hJ
  refine zq_iconst (v := 0) d_Table_concealed_35 zk_i0 ?_
  refine zr_less (L' := [some (.ref 0), some (.int a1), some (.int a2)]) ⟨rfl, ⟨rfl, ⟨rfl, trivial⟩⟩⟩ ?_
  exact s_Table_concealed_L36    hJ
set_option maxHeartbeats 400000 in
theorem s_Table_concealed {g : zk_T} {a1 : Int32} {a2 : Int32} {K : Int32 → zm → Prop} {m : zm} (hJ : j_Table_concealed a1 a2 m K) : zq_Mt (zk_g g) y_Table_concealed 1 0 0 [.ref 0, .int a1, .int a2] (zm_hp m) (zm_QI K) := by
  unfold j_Table_concealed at hJ
  refine zq_meth (ini := false) rfl (fun h => by cases h) (Nat.le_of_ble_eq_true rfl) ?_
  refine zr_L (F := ("RiichiTable", prog_1_method_13_code, 3, (some .int), false, zq_rm 1 0 0)) (L' := [some (.ref 0), some (.int a1), some (.int a2)]) rfl ?_
  refine zq_aload_n d_Table_concealed_0 rfl rfl ?_
  refine zr_cvI (q := 0) (as := []) (st := []) d_Table_concealed_1 cc_Table_188 cv_Table_isHandShown zs_Table (s_Table_isHandShown  hJ) rfl ⟨Nat.le_of_ble_eq_true rfl, Nat.le_of_ble_eq_true rfl⟩ (Nat.le_of_ble_eq_true rfl) ⟨Nat.le_refl _, Nat.le_refl _⟩ rfl (fun r2 m1 hJ => ?_)
  refine zq_if_eq (tgt := 35) d_Table_concealed_4 (by decide) (fun c => ?_) (fun c => ?_)
  · have hJ := hJ.1 c
    refine zr_less (L' := [some (.ref 0), some (.int a1), some (.int a2)]) ⟨rfl, ⟨rfl, ⟨rfl, trivial⟩⟩⟩ ?_
    exact s_Table_concealed_L35    hJ
  · have hJ := hJ.2 c
    refine zq_iload_n d_Table_concealed_7 rfl rfl ?_
    refine zr_csI (as := [.int a1]) (st := []) d_Table_concealed_8 cc_Table_169 cs_Table_isPlayer (s_Table_isPlayer  hJ) rfl ⟨Nat.le_of_ble_eq_true rfl, Nat.le_of_ble_eq_true rfl⟩ (Nat.le_of_ble_eq_true rfl) ⟨Nat.le_refl _, Nat.le_refl _⟩ rfl (fun r4 m3 hJ => ?_)
    refine zq_if_eq (tgt := 35) d_Table_concealed_11 (by decide) (fun c => ?_) (fun c => ?_)
    · have hJ := hJ.1 c
      refine zr_less (L' := [some (.ref 0), some (.int a1), some (.int a2)]) ⟨rfl, ⟨rfl, ⟨rfl, trivial⟩⟩⟩ ?_
      exact s_Table_concealed_L35    hJ
    · have hJ := hJ.2 c
      refine zq_iload_n d_Table_concealed_14 rfl rfl ?_
      refine zr_csI (as := [.int a2]) (st := []) d_Table_concealed_15 cc_Table_67 cs_Table_isKind (s_Table_isKind  hJ) rfl ⟨Nat.le_of_ble_eq_true rfl, Nat.le_of_ble_eq_true rfl⟩ (Nat.le_of_ble_eq_true rfl) ⟨Nat.le_refl _, Nat.le_refl _⟩ rfl (fun r6 m5 hJ => ?_)
      refine zq_if_eq (tgt := 35) d_Table_concealed_18 (by decide) (fun c => ?_) (fun c => ?_)
      · have hJ := hJ.1 c
        refine zr_less (L' := [some (.ref 0), some (.int a1), some (.int a2)]) ⟨rfl, ⟨rfl, ⟨rfl, trivial⟩⟩⟩ ?_
        exact s_Table_concealed_L35    hJ
      · have hJ := hJ.2 c
        refine zq_aload_n d_Table_concealed_21 rfl rfl ?_
        refine zm_getR fg_Table_11 d_Table_concealed_22 zs_Table rfl ?_
        refine zq_iload_n d_Table_concealed_25 rfl rfl ?_
        obtain ⟨hb7, hJ⟩ := hJ
        refine zm_pld d_Table_concealed_26 hb7 ?_
        refine zm_getR fg_Table_52 d_Table_concealed_27 (zm_pl_of hb7).s rfl ?_
        refine zq_iload_n d_Table_concealed_30 rfl rfl ?_
        obtain ⟨hb, hJ⟩ := hJ
        refine zm_ald d_Table_concealed_31 (zm_pl.c (zm_pl_of hb7)) hb ?_
        refine zq_goto (tgt := 36) d_Table_concealed_32 (by decide) ?_
        refine zr_less (L' := [some (.ref 0), some (.int a1), some (.int a2)]) ⟨rfl, ⟨rfl, ⟨rfl, trivial⟩⟩⟩ ?_
        exact s_Table_concealed_L36    hJ
set_option maxHeartbeats 400000 in
theorem s_Table_meld_L14 {g : zk_T} {a1 : Int32} {a2 : Int32} {K : Int32 → zm → Prop} {m : zm} (hJ : j_Table_meld_L14 a1 a2  K  m) : zq_V (zk_g g) ("RiichiTable", prog_1_method_14_code, 4, (some .int), false, zq_rm 1 0 0) 0 0 14 [some (.ref 0), some (.int a1), some (.int a2), none] [] (zm_hp m) (zm_QI K) := by
  unfold j_Table_meld_L14 at hJ
  refine zq_iconst (v := (-1)) d_Table_meld_14 zk_im1 ?_
  exact zq_iret d_Table_meld_15 rfl rfl (Nat.le_refl _) (Nat.le_refl _) ⟨_, _, rfl, rfl, hJ⟩
set_option maxHeartbeats 400000 in
theorem s_Table_meld_L45 {g : zk_T} {a1 : Int32} {a2 : Int32} {K : Int32 → zm → Prop} {t0 : Int32} {m : zm} (hJ : j_Table_meld_L45 a1 a2  K t0 m) : zq_V (zk_g g) ("RiichiTable", prog_1_method_14_code, 4, (some .int), false, zq_rm 1 0 0) 0 0 45 [some (.ref 0), some (.int a1), some (.int a2), none] [.int t0] (zm_hp m) (zm_QI K) := by
  unfold j_Table_meld_L45 at hJ
  exact zq_iret d_Table_meld_45 rfl rfl (Nat.le_refl _) (Nat.le_refl _) ⟨_, _, rfl, rfl, hJ⟩
set_option maxHeartbeats 400000 in
theorem s_Table_meld_L44 {g : zk_T} {a1 : Int32} {a2 : Int32} {K : Int32 → zm → Prop} {m : zm} (hJ : j_Table_meld_L44 a1 a2  K  m) : zq_V (zk_g g) ("RiichiTable", prog_1_method_14_code, 4, (some .int), false, zq_rm 1 0 0) 0 0 44 [some (.ref 0), some (.int a1), some (.int a2), none] [] (zm_hp m) (zm_QI K) := by
  unfold j_Table_meld_L44 at hJ
  refine zq_iconst (v := (-1)) d_Table_meld_44 zk_im1 ?_
  refine zr_less (L' := [some (.ref 0), some (.int a1), some (.int a2), none]) ⟨rfl, ⟨rfl, ⟨rfl, trivial⟩⟩⟩ ?_
  exact s_Table_meld_L45    hJ
set_option maxHeartbeats 400000 in
theorem s_Table_meld {g : zk_T} {a1 : Int32} {a2 : Int32} {K : Int32 → zm → Prop} {m : zm} (hJ : j_Table_meld a1 a2 m K) : zq_Mt (zk_g g) y_Table_meld 1 0 0 [.ref 0, .int a1, .int a2] (zm_hp m) (zm_QI K) := by
  unfold j_Table_meld at hJ
  refine zq_meth (ini := false) rfl (fun h => by cases h) (Nat.le_of_ble_eq_true rfl) ?_
  refine zr_L (F := ("RiichiTable", prog_1_method_14_code, 4, (some .int), false, zq_rm 1 0 0)) (L' := [some (.ref 0), some (.int a1), some (.int a2), none]) rfl ?_
  refine zq_aload_n d_Table_meld_0 rfl rfl ?_
  refine zr_cvI (q := 0) (as := []) (st := []) d_Table_meld_1 cc_Table_188 cv_Table_isHandShown zs_Table (s_Table_isHandShown  hJ) rfl ⟨Nat.le_of_ble_eq_true rfl, Nat.le_of_ble_eq_true rfl⟩ (Nat.le_of_ble_eq_true rfl) ⟨Nat.le_refl _, Nat.le_refl _⟩ rfl (fun r2 m1 hJ => ?_)
  refine zq_if_eq (tgt := 14) d_Table_meld_4 (by decide) (fun c => ?_) (fun c => ?_)
  · have hJ := hJ.1 c
    refine zr_less (L' := [some (.ref 0), some (.int a1), some (.int a2), none]) ⟨rfl, ⟨rfl, ⟨rfl, trivial⟩⟩⟩ ?_
    exact s_Table_meld_L14    hJ
  · have hJ := hJ.2 c
    refine zq_iload_n d_Table_meld_7 rfl rfl ?_
    refine zr_csI (as := [.int a1]) (st := []) d_Table_meld_8 cc_Table_169 cs_Table_isPlayer (s_Table_isPlayer  hJ) rfl ⟨Nat.le_of_ble_eq_true rfl, Nat.le_of_ble_eq_true rfl⟩ (Nat.le_of_ble_eq_true rfl) ⟨Nat.le_refl _, Nat.le_refl _⟩ rfl (fun r4 m3 hJ => ?_)
    refine zq_if_ne (tgt := 16) d_Table_meld_11 (by decide) (fun c => ?_) (fun c => ?_)
    · have hJ := hJ.1 c
      refine zq_aload_n d_Table_meld_16 rfl rfl ?_
      refine zm_getR fg_Table_11 d_Table_meld_17 zs_Table rfl ?_
      refine zq_iload_n d_Table_meld_20 rfl rfl ?_
      obtain ⟨hb5, hJ⟩ := hJ
      refine zm_pld d_Table_meld_21 hb5 ?_
      refine zr_topr (fun y6 hy6 => ?_)
      have hJ := hJ y6 hy6
      refine zr_astore_n (L' := [some (.ref 0), some (.int a1), some (.int a2), some (.ref y6)]) d_Table_meld_22 rfl (Nat.le_of_ble_eq_true rfl) rfl ?_
      refine zq_iload_n d_Table_meld_23 rfl rfl ?_
      refine zq_if_lt (tgt := 44) d_Table_meld_24 (by decide) (fun c => ?_) (fun c => ?_)
      · have hJ := hJ.1 c
        refine zr_less (L' := [some (.ref 0), some (.int a1), some (.int a2), none]) ⟨rfl, ⟨rfl, ⟨rfl, trivial⟩⟩⟩ ?_
        exact s_Table_meld_L44    hJ
      · have hJ := hJ.2 c
        refine zq_iload_n d_Table_meld_27 rfl rfl ?_
        refine zq_aload_n d_Table_meld_28 rfl rfl ?_
        refine zm_getI fg_Table_191 d_Table_meld_29 (hy6.symm ▸ (zm_pl_of hb5) : zm_pl y6).s rfl ?_
        refine zq_icmp_ge (tgt := 44) d_Table_meld_32 (by decide) (fun c => ?_) (fun c => ?_)
        · have hJ := hJ.1 c
          refine zr_less (L' := [some (.ref 0), some (.int a1), some (.int a2), none]) ⟨rfl, ⟨rfl, ⟨rfl, trivial⟩⟩⟩ ?_
          exact s_Table_meld_L44    hJ
        · have hJ := hJ.2 c
          refine zq_aload_n d_Table_meld_35 rfl rfl ?_
          refine zm_getR fg_Table_194 d_Table_meld_36 (hy6.symm ▸ (zm_pl_of hb5) : zm_pl y6).s rfl ?_
          refine zq_iload_n d_Table_meld_39 rfl rfl ?_
          obtain ⟨hb, hJ⟩ := hJ
          refine zm_ald d_Table_meld_40 (zm_pl.m (hy6.symm ▸ (zm_pl_of hb5) : zm_pl y6)) hb ?_
          refine zq_goto (tgt := 45) d_Table_meld_41 (by decide) ?_
          refine zr_less (L' := [some (.ref 0), some (.int a1), some (.int a2), none]) ⟨rfl, ⟨rfl, ⟨rfl, trivial⟩⟩⟩ ?_
          exact s_Table_meld_L45    hJ
    · have hJ := hJ.2 c
      refine zr_less (L' := [some (.ref 0), some (.int a1), some (.int a2), none]) ⟨rfl, ⟨rfl, ⟨rfl, trivial⟩⟩⟩ ?_
      exact s_Table_meld_L14    hJ
set_option maxHeartbeats 400000 in
theorem s_Table_river_L14 {g : zk_T} {a1 : Int32} {a2 : Int32} {K : Int32 → zm → Prop} {m : zm} (hJ : j_Table_river_L14 a1 a2  K  m) : zq_V (zk_g g) ("RiichiTable", prog_1_method_15_code, 4, (some .int), false, zq_rm 1 0 0) 0 0 14 [some (.ref 0), some (.int a1), some (.int a2), none] [] (zm_hp m) (zm_QI K) := by
  unfold j_Table_river_L14 at hJ
  refine zq_iconst (v := (-1)) d_Table_river_14 zk_im1 ?_
  exact zq_iret d_Table_river_15 rfl rfl (Nat.le_refl _) (Nat.le_refl _) ⟨_, _, rfl, rfl, hJ⟩
set_option maxHeartbeats 400000 in
theorem s_Table_river_L45 {g : zk_T} {a1 : Int32} {a2 : Int32} {K : Int32 → zm → Prop} {t0 : Int32} {m : zm} (hJ : j_Table_river_L45 a1 a2  K t0 m) : zq_V (zk_g g) ("RiichiTable", prog_1_method_15_code, 4, (some .int), false, zq_rm 1 0 0) 0 0 45 [some (.ref 0), some (.int a1), some (.int a2), none] [.int t0] (zm_hp m) (zm_QI K) := by
  unfold j_Table_river_L45 at hJ
  exact zq_iret d_Table_river_45 rfl rfl (Nat.le_refl _) (Nat.le_refl _) ⟨_, _, rfl, rfl, hJ⟩
set_option maxHeartbeats 400000 in
theorem s_Table_river_L44 {g : zk_T} {a1 : Int32} {a2 : Int32} {K : Int32 → zm → Prop} {m : zm} (hJ : j_Table_river_L44 a1 a2  K  m) : zq_V (zk_g g) ("RiichiTable", prog_1_method_15_code, 4, (some .int), false, zq_rm 1 0 0) 0 0 44 [some (.ref 0), some (.int a1), some (.int a2), none] [] (zm_hp m) (zm_QI K) := by
  unfold j_Table_river_L44 at hJ
  refine zq_iconst (v := (-1)) d_Table_river_44 zk_im1 ?_
  refine zr_less (L' := [some (.ref 0), some (.int a1), some (.int a2), none]) ⟨rfl, ⟨rfl, ⟨rfl, trivial⟩⟩⟩ ?_
  exact s_Table_river_L45    hJ
set_option maxHeartbeats 400000 in
theorem s_Table_river {g : zk_T} {a1 : Int32} {a2 : Int32} {K : Int32 → zm → Prop} {m : zm} (hJ : j_Table_river a1 a2 m K) : zq_Mt (zk_g g) y_Table_river 1 0 0 [.ref 0, .int a1, .int a2] (zm_hp m) (zm_QI K) := by
  unfold j_Table_river at hJ
  refine zq_meth (ini := false) rfl (fun h => by cases h) (Nat.le_of_ble_eq_true rfl) ?_
  refine zr_L (F := ("RiichiTable", prog_1_method_15_code, 4, (some .int), false, zq_rm 1 0 0)) (L' := [some (.ref 0), some (.int a1), some (.int a2), none]) rfl ?_
  refine zq_aload_n d_Table_river_0 rfl rfl ?_
  refine zr_cvI (q := 0) (as := []) (st := []) d_Table_river_1 cc_Table_188 cv_Table_isHandShown zs_Table (s_Table_isHandShown  hJ) rfl ⟨Nat.le_of_ble_eq_true rfl, Nat.le_of_ble_eq_true rfl⟩ (Nat.le_of_ble_eq_true rfl) ⟨Nat.le_refl _, Nat.le_refl _⟩ rfl (fun r2 m1 hJ => ?_)
  refine zq_if_eq (tgt := 14) d_Table_river_4 (by decide) (fun c => ?_) (fun c => ?_)
  · have hJ := hJ.1 c
    refine zr_less (L' := [some (.ref 0), some (.int a1), some (.int a2), none]) ⟨rfl, ⟨rfl, ⟨rfl, trivial⟩⟩⟩ ?_
    exact s_Table_river_L14    hJ
  · have hJ := hJ.2 c
    refine zq_iload_n d_Table_river_7 rfl rfl ?_
    refine zr_csI (as := [.int a1]) (st := []) d_Table_river_8 cc_Table_169 cs_Table_isPlayer (s_Table_isPlayer  hJ) rfl ⟨Nat.le_of_ble_eq_true rfl, Nat.le_of_ble_eq_true rfl⟩ (Nat.le_of_ble_eq_true rfl) ⟨Nat.le_refl _, Nat.le_refl _⟩ rfl (fun r4 m3 hJ => ?_)
    refine zq_if_ne (tgt := 16) d_Table_river_11 (by decide) (fun c => ?_) (fun c => ?_)
    · have hJ := hJ.1 c
      refine zq_aload_n d_Table_river_16 rfl rfl ?_
      refine zm_getR fg_Table_11 d_Table_river_17 zs_Table rfl ?_
      refine zq_iload_n d_Table_river_20 rfl rfl ?_
      obtain ⟨hb5, hJ⟩ := hJ
      refine zm_pld d_Table_river_21 hb5 ?_
      refine zr_topr (fun y6 hy6 => ?_)
      have hJ := hJ y6 hy6
      refine zr_astore_n (L' := [some (.ref 0), some (.int a1), some (.int a2), some (.ref y6)]) d_Table_river_22 rfl (Nat.le_of_ble_eq_true rfl) rfl ?_
      refine zq_iload_n d_Table_river_23 rfl rfl ?_
      refine zq_if_lt (tgt := 44) d_Table_river_24 (by decide) (fun c => ?_) (fun c => ?_)
      · have hJ := hJ.1 c
        refine zr_less (L' := [some (.ref 0), some (.int a1), some (.int a2), none]) ⟨rfl, ⟨rfl, ⟨rfl, trivial⟩⟩⟩ ?_
        exact s_Table_river_L44    hJ
      · have hJ := hJ.2 c
        refine zq_iload_n d_Table_river_27 rfl rfl ?_
        refine zq_aload_n d_Table_river_28 rfl rfl ?_
        refine zm_getI fg_Table_81 d_Table_river_29 (hy6.symm ▸ (zm_pl_of hb5) : zm_pl y6).s rfl ?_
        refine zq_icmp_ge (tgt := 44) d_Table_river_32 (by decide) (fun c => ?_) (fun c => ?_)
        · have hJ := hJ.1 c
          refine zr_less (L' := [some (.ref 0), some (.int a1), some (.int a2), none]) ⟨rfl, ⟨rfl, ⟨rfl, trivial⟩⟩⟩ ?_
          exact s_Table_river_L44    hJ
        · have hJ := hJ.2 c
          refine zq_aload_n d_Table_river_35 rfl rfl ?_
          refine zm_getR fg_Table_197 d_Table_river_36 (hy6.symm ▸ (zm_pl_of hb5) : zm_pl y6).s rfl ?_
          refine zq_iload_n d_Table_river_39 rfl rfl ?_
          obtain ⟨hb, hJ⟩ := hJ
          refine zm_ald d_Table_river_40 (zm_pl.r (hy6.symm ▸ (zm_pl_of hb5) : zm_pl y6)) hb ?_
          refine zq_goto (tgt := 45) d_Table_river_41 (by decide) ?_
          refine zr_less (L' := [some (.ref 0), some (.int a1), some (.int a2), none]) ⟨rfl, ⟨rfl, ⟨rfl, trivial⟩⟩⟩ ?_
          exact s_Table_river_L45    hJ
    · have hJ := hJ.2 c
      refine zr_less (L' := [some (.ref 0), some (.int a1), some (.int a2), none]) ⟨rfl, ⟨rfl, ⟨rfl, trivial⟩⟩⟩ ?_
      exact s_Table_river_L14    hJ
set_option maxHeartbeats 400000 in
theorem s_Table_waits_L27 {g : zk_T} {a1 : Int32} {K : Int64 → zm → Prop} {t0 : Int64} {m : zm} (hJ : j_Table_waits_L27 a1  K t0 m) : zq_V (zk_g g) ("RiichiTable", prog_1_method_16_code, 2, (some .long), false, zq_rm 4 0 0) 0 0 27 [some (.ref 0), some (.int a1)] [.long t0] (zm_hp m) (zm_QL K) := by
  unfold j_Table_waits_L27 at hJ
  exact zq_lret d_Table_waits_27 rfl (Nat.le_refl _) (Nat.le_refl _) ⟨_, _, rfl, rfl, hJ⟩
set_option maxHeartbeats 400000 in
theorem s_Table_waits_L26 {g : zk_T} {a1 : Int32} {K : Int64 → zm → Prop} {m : zm} (hJ : j_Table_waits_L26 a1  K  m) : zq_V (zk_g g) ("RiichiTable", prog_1_method_16_code, 2, (some .long), false, zq_rm 4 0 0) 0 0 26 [some (.ref 0), some (.int a1)] [] (zm_hp m) (zm_QL K) := by
  unfold j_Table_waits_L26 at hJ
  refine zq_lconst (v := 0) d_Table_waits_26 zk_l0 ?_
  refine zr_less (L' := [some (.ref 0), some (.int a1)]) ⟨rfl, ⟨rfl, trivial⟩⟩ ?_
  exact s_Table_waits_L27    hJ
set_option maxHeartbeats 400000 in
theorem s_Table_waits {g : zk_T} {a1 : Int32} {K : Int64 → zm → Prop} {m : zm} (hJ : j_Table_waits a1 m K) : zq_Mt (zk_g g) y_Table_waits 4 0 0 [.ref 0, .int a1] (zm_hp m) (zm_QL K) := by
  unfold j_Table_waits at hJ
  refine zq_meth (ini := false) rfl (fun h => by cases h) (Nat.le_of_ble_eq_true rfl) ?_
  refine zr_L (F := ("RiichiTable", prog_1_method_16_code, 2, (some .long), false, zq_rm 4 0 0)) (L' := [some (.ref 0), some (.int a1)]) rfl ?_
  refine zq_aload_n d_Table_waits_0 rfl rfl ?_
  refine zr_cvI (q := 0) (as := []) (st := []) d_Table_waits_1 cc_Table_188 cv_Table_isHandShown zs_Table (s_Table_isHandShown  hJ) rfl ⟨Nat.le_of_ble_eq_true rfl, Nat.le_of_ble_eq_true rfl⟩ (Nat.le_of_ble_eq_true rfl) ⟨Nat.le_refl _, Nat.le_refl _⟩ rfl (fun r2 m1 hJ => ?_)
  refine zq_if_eq (tgt := 26) d_Table_waits_4 (by decide) (fun c => ?_) (fun c => ?_)
  · have hJ := hJ.1 c
    refine zr_less (L' := [some (.ref 0), some (.int a1)]) ⟨rfl, ⟨rfl, trivial⟩⟩ ?_
    exact s_Table_waits_L26    hJ
  · have hJ := hJ.2 c
    refine zq_iload_n d_Table_waits_7 rfl rfl ?_
    refine zr_csI (as := [.int a1]) (st := []) d_Table_waits_8 cc_Table_169 cs_Table_isPlayer (s_Table_isPlayer  hJ) rfl ⟨Nat.le_of_ble_eq_true rfl, Nat.le_of_ble_eq_true rfl⟩ (Nat.le_of_ble_eq_true rfl) ⟨Nat.le_refl _, Nat.le_refl _⟩ rfl (fun r4 m3 hJ => ?_)
    refine zq_if_eq (tgt := 26) d_Table_waits_11 (by decide) (fun c => ?_) (fun c => ?_)
    · have hJ := hJ.1 c
      refine zr_less (L' := [some (.ref 0), some (.int a1)]) ⟨rfl, ⟨rfl, trivial⟩⟩ ?_
      exact s_Table_waits_L26    hJ
    · have hJ := hJ.2 c
      refine zq_aload_n d_Table_waits_14 rfl rfl ?_
      refine zm_getR fg_Table_11 d_Table_waits_15 zs_Table rfl ?_
      refine zq_iload_n d_Table_waits_18 rfl rfl ?_
      obtain ⟨hb5, hJ⟩ := hJ
      refine zm_pld d_Table_waits_19 hb5 ?_
      refine zr_cvL (q := (13 + 5 * (Int32.toNatClampNeg a1))) (as := []) (st := []) d_Table_waits_20 cc_Table_200 cv_Player_findWaits (zm_pl_of hb5).s (s_Player_findWaits (zm_pl_of hb5) hJ) rfl ⟨Nat.le_of_ble_eq_true rfl, Nat.le_of_ble_eq_true rfl⟩ (Nat.le_of_ble_eq_true rfl) ⟨Nat.le_refl _, Nat.le_refl _⟩ rfl (fun r7 m6 hJ => ?_)
      refine zq_goto (tgt := 27) d_Table_waits_23 (by decide) ?_
      refine zr_less (L' := [some (.ref 0), some (.int a1)]) ⟨rfl, ⟨rfl, trivial⟩⟩ ?_
      exact s_Table_waits_L27    hJ
set_option maxHeartbeats 400000 in
theorem s_Table_furiten_L31 {g : zk_T} {a1 : Int32} {K : Int32 → zm → Prop} {t0 : Int32} {m : zm} (hJ : j_Table_furiten_L31 a1  K t0 m) : zq_V (zk_g g) ("RiichiTable", prog_1_method_17_code, 2, (some .boolean), false, zq_rm 5 0 0) 0 0 31 [some (.ref 0), some (.int a1)] [.int t0] (zm_hp m) (zm_QI K) := by
  unfold j_Table_furiten_L31 at hJ
  exact zq_iret d_Table_furiten_31 rfl hJ.1.nar (Nat.le_refl _) (Nat.le_refl _) ⟨_, _, rfl, rfl, hJ.2⟩
set_option maxHeartbeats 400000 in
theorem s_Table_furiten_L30 {g : zk_T} {a1 : Int32} {K : Int32 → zm → Prop} {m : zm} (hJ : j_Table_furiten_L30 a1  K  m) : zq_V (zk_g g) ("RiichiTable", prog_1_method_17_code, 2, (some .boolean), false, zq_rm 5 0 0) 0 0 30 [some (.ref 0), some (.int a1)] [] (zm_hp m) (zm_QI K) := by
  unfold j_Table_furiten_L30 at hJ
  refine zq_iconst (v := 0) d_Table_furiten_30 zk_i0 ?_
  refine zr_less (L' := [some (.ref 0), some (.int a1)]) ⟨rfl, ⟨rfl, trivial⟩⟩ ?_
  exact s_Table_furiten_L31    hJ
set_option maxHeartbeats 400000 in
theorem s_Table_furiten {g : zk_T} {a1 : Int32} {K : Int32 → zm → Prop} {m : zm} (hJ : j_Table_furiten a1 m K) : zq_Mt (zk_g g) y_Table_furiten 5 0 0 [.ref 0, .int a1] (zm_hp m) (zm_QI K) := by
  unfold j_Table_furiten at hJ
  refine zq_meth (ini := false) rfl (fun h => by cases h) (Nat.le_of_ble_eq_true rfl) ?_
  refine zr_L (F := ("RiichiTable", prog_1_method_17_code, 2, (some .boolean), false, zq_rm 5 0 0)) (L' := [some (.ref 0), some (.int a1)]) rfl ?_
  refine zq_aload_n d_Table_furiten_0 rfl rfl ?_
  refine zr_cvI (q := 0) (as := []) (st := []) d_Table_furiten_1 cc_Table_188 cv_Table_isHandShown zs_Table (s_Table_isHandShown  hJ) rfl ⟨Nat.le_of_ble_eq_true rfl, Nat.le_of_ble_eq_true rfl⟩ (Nat.le_of_ble_eq_true rfl) ⟨Nat.le_refl _, Nat.le_refl _⟩ rfl (fun r2 m1 hJ => ?_)
  refine zq_if_eq (tgt := 30) d_Table_furiten_4 (by decide) (fun c => ?_) (fun c => ?_)
  · have hJ := hJ.1 c
    refine zr_less (L' := [some (.ref 0), some (.int a1)]) ⟨rfl, ⟨rfl, trivial⟩⟩ ?_
    exact s_Table_furiten_L30    hJ
  · have hJ := hJ.2 c
    refine zq_iload_n d_Table_furiten_7 rfl rfl ?_
    refine zr_csI (as := [.int a1]) (st := []) d_Table_furiten_8 cc_Table_169 cs_Table_isPlayer (s_Table_isPlayer  hJ) rfl ⟨Nat.le_of_ble_eq_true rfl, Nat.le_of_ble_eq_true rfl⟩ (Nat.le_of_ble_eq_true rfl) ⟨Nat.le_refl _, Nat.le_refl _⟩ rfl (fun r4 m3 hJ => ?_)
    refine zq_if_eq (tgt := 30) d_Table_furiten_11 (by decide) (fun c => ?_) (fun c => ?_)
    · have hJ := hJ.1 c
      refine zr_less (L' := [some (.ref 0), some (.int a1)]) ⟨rfl, ⟨rfl, trivial⟩⟩ ?_
      exact s_Table_furiten_L30    hJ
    · have hJ := hJ.2 c
      refine zq_aload_n d_Table_furiten_14 rfl rfl ?_
      refine zm_getR fg_Table_11 d_Table_furiten_15 zs_Table rfl ?_
      refine zq_iload_n d_Table_furiten_18 rfl rfl ?_
      obtain ⟨hb5, hJ⟩ := hJ
      refine zm_pld d_Table_furiten_19 hb5 ?_
      refine zr_cvI (q := (13 + 5 * (Int32.toNatClampNeg a1))) (as := []) (st := []) d_Table_furiten_20 cc_Table_204 cv_Player_isFuriten (zm_pl_of hb5).s (s_Player_isFuriten (zm_pl_of hb5) hJ) rfl ⟨Nat.le_of_ble_eq_true rfl, Nat.le_of_ble_eq_true rfl⟩ (Nat.le_of_ble_eq_true rfl) ⟨Nat.le_refl _, Nat.le_refl _⟩ rfl (fun r7 m6 hJ => ?_)
      refine zq_if_eq (tgt := 30) d_Table_furiten_23 (by decide) (fun c => ?_) (fun c => ?_)
      · have hJ := hJ.1 c
        refine zr_less (L' := [some (.ref 0), some (.int a1)]) ⟨rfl, ⟨rfl, trivial⟩⟩ ?_
        exact s_Table_furiten_L30    hJ
      · have hJ := hJ.2 c
        refine zq_iconst (v := 1) d_Table_furiten_26 zk_i1 ?_
        refine zq_goto (tgt := 31) d_Table_furiten_27 (by decide) ?_
        refine zr_less (L' := [some (.ref 0), some (.int a1)]) ⟨rfl, ⟨rfl, trivial⟩⟩ ?_
        exact s_Table_furiten_L31    hJ
set_option maxHeartbeats 400000 in
theorem s_Table_points_L20 {g : zk_T} {a1 : Int32} {K : Int32 → zm → Prop} {t0 : Int32} {m : zm} (hJ : j_Table_points_L20 a1  K t0 m) : zq_V (zk_g g) ("RiichiTable", prog_1_method_18_code, 2, (some .int), false, zq_rm 1 0 0) 0 0 20 [some (.ref 0), some (.int a1)] [.int t0] (zm_hp m) (zm_QI K) := by
  unfold j_Table_points_L20 at hJ
  exact zq_iret d_Table_points_20 rfl rfl (Nat.le_refl _) (Nat.le_refl _) ⟨_, _, rfl, rfl, hJ⟩
set_option maxHeartbeats 400000 in
theorem s_Table_points {g : zk_T} {a1 : Int32} {K : Int32 → zm → Prop} {m : zm} (hJ : j_Table_points a1 m K) : zq_Mt (zk_g g) y_Table_points 1 0 0 [.ref 0, .int a1] (zm_hp m) (zm_QI K) := by
  unfold j_Table_points at hJ
  refine zq_meth (ini := false) rfl (fun h => by cases h) (Nat.le_of_ble_eq_true rfl) ?_
  refine zr_L (F := ("RiichiTable", prog_1_method_18_code, 2, (some .int), false, zq_rm 1 0 0)) (L' := [some (.ref 0), some (.int a1)]) rfl ?_
  refine zq_iload_n d_Table_points_0 rfl rfl ?_
  refine zr_csI (as := [.int a1]) (st := []) d_Table_points_1 cc_Table_169 cs_Table_isPlayer (s_Table_isPlayer  hJ) rfl ⟨Nat.le_of_ble_eq_true rfl, Nat.le_of_ble_eq_true rfl⟩ (Nat.le_of_ble_eq_true rfl) ⟨Nat.le_refl _, Nat.le_refl _⟩ rfl (fun r2 m1 hJ => ?_)
  refine zq_if_eq (tgt := 19) d_Table_points_4 (by decide) (fun c => ?_) (fun c => ?_)
  · have hJ := hJ.1 c
    refine zq_iconst (v := 0) d_Table_points_19 zk_i0 ?_
    refine zr_less (L' := [some (.ref 0), some (.int a1)]) ⟨rfl, ⟨rfl, trivial⟩⟩ ?_
    exact s_Table_points_L20    hJ
  · have hJ := hJ.2 c
    refine zq_aload_n d_Table_points_7 rfl rfl ?_
    refine zm_getR fg_Table_11 d_Table_points_8 zs_Table rfl ?_
    refine zq_iload_n d_Table_points_11 rfl rfl ?_
    obtain ⟨hb3, hJ⟩ := hJ
    refine zm_pld d_Table_points_12 hb3 ?_
    refine zm_getI fg_Table_156 d_Table_points_13 (zm_pl_of hb3).s rfl ?_
    refine zq_goto (tgt := 20) d_Table_points_16 (by decide) ?_
    refine zr_less (L' := [some (.ref 0), some (.int a1)]) ⟨rfl, ⟨rfl, trivial⟩⟩ ?_
    exact s_Table_points_L20    hJ
set_option maxHeartbeats 400000 in
theorem s_Table_table_L78 {g : zk_T} {a1 : Int32} {K : Int32 → zm → Prop} {t0 : Int32} {m : zm} (hJ : j_Table_table_L78 a1  K t0 m) : zq_V (zk_g g) ("RiichiTable", prog_1_method_19_code, 2, (some .int), false, zq_rm 2 0 0) 0 0 78 [some (.ref 0), some (.int a1)] [.int t0] (zm_hp m) (zm_QI K) := by
  unfold j_Table_table_L78 at hJ
  exact zq_iret d_Table_table_78 rfl rfl (Nat.le_refl _) (Nat.le_refl _) ⟨_, _, rfl, rfl, hJ⟩
set_option maxHeartbeats 400000 in
theorem s_Table_table_L97 {g : zk_T} {a1 : Int32} {K : Int32 → zm → Prop} {t0 : Int32} {m : zm} (hJ : j_Table_table_L97 a1  K t0 m) : zq_V (zk_g g) ("RiichiTable", prog_1_method_19_code, 2, (some .int), false, zq_rm 2 0 0) 0 0 97 [some (.ref 0), some (.int a1)] [.int t0] (zm_hp m) (zm_QI K) := by
  unfold j_Table_table_L97 at hJ
  exact zq_iret d_Table_table_97 rfl rfl (Nat.le_refl _) (Nat.le_refl _) ⟨_, _, rfl, rfl, hJ⟩
set_option maxHeartbeats 400000 in
theorem s_Table_table {g : zk_T} {a1 : Int32} {K : Int32 → zm → Prop} {m : zm} (hJ : j_Table_table a1 m K) : zq_Mt (zk_g g) y_Table_table 2 0 0 [.ref 0, .int a1] (zm_hp m) (zm_QI K) := by
  unfold j_Table_table at hJ
  refine zq_meth (ini := false) rfl (fun h => by cases h) (Nat.le_of_ble_eq_true rfl) ?_
  refine zr_L (F := ("RiichiTable", prog_1_method_19_code, 2, (some .int), false, zq_rm 2 0 0)) (L' := [some (.ref 0), some (.int a1)]) rfl ?_
  refine zq_iload_n d_Table_table_0 rfl rfl ?_
  rcases Classical.em (Int32.toInt a1 < 0 ∨ ((5 : Nat) : Int) < Int32.toInt a1) with hsw | hsw
  · have hJ := hJ.1 hsw
    refine zq_swOut (tgt := 98) d_Table_table_1 hsw (by decide) ?_
    refine zq_iconst (v := (-1)) d_Table_table_98 zk_im1 ?_
    exact zq_iret d_Table_table_99 rfl rfl (Nat.le_refl _) (Nat.le_refl _) ⟨_, _, rfl, rfl, hJ⟩
  · obtain ⟨jsw, hj1, hj2, hj3⟩ := zr_sw (by decide) hsw
    have hJ := hJ.2
    match jsw, hj1, hj2, hj3 with
    | 0, _, hj2, hj3 =>
      have hJ := hJ.1 hj2
      refine zq_swIn (tgt := 40) d_Table_table_1 (fun h => hsw (Or.inl h)) (fun h => hsw (Or.inr h)) (off := 39) (by rw [hj3]; rfl) (by decide) ?_
      refine zq_aload_n d_Table_table_40 rfl rfl ?_
      refine zm_getI fg_Table_46 d_Table_table_41 zs_Table rfl ?_
      exact zq_iret d_Table_table_44 rfl rfl (Nat.le_refl _) (Nat.le_refl _) ⟨_, _, rfl, rfl, hJ⟩
    | 1, _, hj2, hj3 =>
      have hJ := hJ.2.1 hj2
      refine zq_swIn (tgt := 45) d_Table_table_1 (fun h => hsw (Or.inl h)) (fun h => hsw (Or.inr h)) (off := 44) (by rw [hj3]; rfl) (by decide) ?_
      refine zq_aload_n d_Table_table_45 rfl rfl ?_
      refine zm_getI fg_Table_207 d_Table_table_46 zs_Table rfl ?_
      exact zq_iret d_Table_table_49 rfl rfl (Nat.le_refl _) (Nat.le_refl _) ⟨_, _, rfl, rfl, hJ⟩
    | 2, _, hj2, hj3 =>
      have hJ := hJ.2.2.1 hj2
      refine zq_swIn (tgt := 50) d_Table_table_1 (fun h => hsw (Or.inl h)) (fun h => hsw (Or.inr h)) (off := 49) (by rw [hj3]; rfl) (by decide) ?_
      refine zq_aload_n d_Table_table_50 rfl rfl ?_
      refine zm_getI fg_Table_153 d_Table_table_51 zs_Table rfl ?_
      exact zq_iret d_Table_table_54 rfl rfl (Nat.le_refl _) (Nat.le_refl _) ⟨_, _, rfl, rfl, hJ⟩
    | 3, _, hj2, hj3 =>
      have hJ := hJ.2.2.2.1 hj2
      refine zq_swIn (tgt := 55) d_Table_table_1 (fun h => hsw (Or.inl h)) (fun h => hsw (Or.inr h)) (off := 54) (by rw [hj3]; rfl) (by decide) ?_
      refine zq_aload_n d_Table_table_55 rfl rfl ?_
      refine zm_getI fg_Table_210 d_Table_table_56 zs_Table rfl ?_
      exact zq_iret d_Table_table_59 rfl rfl (Nat.le_refl _) (Nat.le_refl _) ⟨_, _, rfl, rfl, hJ⟩
    | 4, _, hj2, hj3 =>
      have hJ := hJ.2.2.2.2.1 hj2
      refine zq_swIn (tgt := 60) d_Table_table_1 (fun h => hsw (Or.inl h)) (fun h => hsw (Or.inr h)) (off := 59) (by rw [hj3]; rfl) (by decide) ?_
      refine zq_aload_n d_Table_table_60 rfl rfl ?_
      refine zr_cvI (q := 0) (as := []) (st := []) d_Table_table_61 cc_Table_188 cv_Table_isHandShown zs_Table (s_Table_isHandShown  hJ) rfl ⟨Nat.le_of_ble_eq_true rfl, Nat.le_of_ble_eq_true rfl⟩ (Nat.le_of_ble_eq_true rfl) ⟨Nat.le_refl _, Nat.le_refl _⟩ rfl (fun r2 m1 hJ => ?_)
      refine zq_if_eq (tgt := 77) d_Table_table_64 (by decide) (fun c => ?_) (fun c => ?_)
      · have hJ := hJ.1 c
        refine zq_iconst (v := 0) d_Table_table_77 zk_i0 ?_
        refine zr_less (L' := [some (.ref 0), some (.int a1)]) ⟨rfl, ⟨rfl, trivial⟩⟩ ?_
        exact s_Table_table_L78    hJ
      · have hJ := hJ.2 c
        refine zq_aload_n d_Table_table_67 rfl rfl ?_
        refine zm_getR fg_Table_34 d_Table_table_68 zs_Table rfl ?_
        refine zr_cvI (q := 11) (as := []) (st := []) d_Table_table_71 cc_Table_106 cv_Wall_countLeft zs_Wall (s_Wall_countLeft  hJ) rfl ⟨Nat.le_of_ble_eq_true rfl, Nat.le_of_ble_eq_true rfl⟩ (Nat.le_of_ble_eq_true rfl) ⟨Nat.le_refl _, Nat.le_refl _⟩ rfl (fun r4 m3 hJ => ?_)
        refine zq_goto (tgt := 78) d_Table_table_74 (by decide) ?_
        refine zr_less (L' := [some (.ref 0), some (.int a1)]) ⟨rfl, ⟨rfl, trivial⟩⟩ ?_
        exact s_Table_table_L78    hJ
    | 5, _, hj2, hj3 =>
      have hJ := hJ.2.2.2.2.2 hj2
      refine zq_swIn (tgt := 79) d_Table_table_1 (fun h => hsw (Or.inl h)) (fun h => hsw (Or.inr h)) (off := 78) (by rw [hj3]; rfl) (by decide) ?_
      refine zq_aload_n d_Table_table_79 rfl rfl ?_
      refine zr_cvI (q := 0) (as := []) (st := []) d_Table_table_80 cc_Table_188 cv_Table_isHandShown zs_Table (s_Table_isHandShown  hJ) rfl ⟨Nat.le_of_ble_eq_true rfl, Nat.le_of_ble_eq_true rfl⟩ (Nat.le_of_ble_eq_true rfl) ⟨Nat.le_refl _, Nat.le_refl _⟩ rfl (fun r6 m5 hJ => ?_)
      refine zq_if_eq (tgt := 96) d_Table_table_83 (by decide) (fun c => ?_) (fun c => ?_)
      · have hJ := hJ.1 c
        refine zq_iconst (v := 0) d_Table_table_96 zk_i0 ?_
        refine zr_less (L' := [some (.ref 0), some (.int a1)]) ⟨rfl, ⟨rfl, trivial⟩⟩ ?_
        exact s_Table_table_L97    hJ
      · have hJ := hJ.2 c
        refine zq_aload_n d_Table_table_86 rfl rfl ?_
        refine zm_getR fg_Table_34 d_Table_table_87 zs_Table rfl ?_
        refine zm_getI fg_Table_103 d_Table_table_90 zs_Wall rfl ?_
        refine zq_goto (tgt := 97) d_Table_table_93 (by decide) ?_
        refine zr_less (L' := [some (.ref 0), some (.int a1)]) ⟨rfl, ⟨rfl, trivial⟩⟩ ?_
        exact s_Table_table_L97    hJ
    | jsw + 6, hj1, _, _ => exact absurd hj1 (by omega)
set_option maxHeartbeats 400000 in
theorem s_Table_worth_L24 {g : zk_T} {a1 : Int32} {a2 : Int32} {K : Int32 → zm → Prop} {m : zm} (hJ : j_Table_worth_L24 a1 a2  K  m) : zq_V (zk_g g) ("RiichiTable", prog_1_method_20_code, 4, (some .int), false, zq_rm 1 0 0) 0 0 24 [some (.ref 0), some (.int a1), some (.int a2), none] [] (zm_hp m) (zm_QI K) := by
  unfold j_Table_worth_L24 at hJ
  refine zq_iconst (v := (-1)) d_Table_worth_24 zk_im1 ?_
  exact zq_iret d_Table_worth_25 rfl rfl (Nat.le_refl _) (Nat.le_refl _) ⟨_, _, rfl, rfl, hJ⟩
set_option maxHeartbeats 400000 in
theorem s_Table_worth {g : zk_T} {a1 : Int32} {a2 : Int32} {K : Int32 → zm → Prop} {m : zm} (hJ : j_Table_worth a1 a2 m K) : zq_Mt (zk_g g) y_Table_worth 1 0 0 [.ref 0, .int a1, .int a2] (zm_hp m) (zm_QI K) := by
  unfold j_Table_worth at hJ
  refine zq_meth (ini := false) rfl (fun h => by cases h) (Nat.le_of_ble_eq_true rfl) ?_
  refine zr_L (F := ("RiichiTable", prog_1_method_20_code, 4, (some .int), false, zq_rm 1 0 0)) (L' := [some (.ref 0), some (.int a1), some (.int a2), none]) rfl ?_
  refine zq_iload_n d_Table_worth_0 rfl rfl ?_
  refine zr_csI (as := [.int a1]) (st := []) d_Table_worth_1 cc_Table_169 cs_Table_isPlayer (s_Table_isPlayer  hJ) rfl ⟨Nat.le_of_ble_eq_true rfl, Nat.le_of_ble_eq_true rfl⟩ (Nat.le_of_ble_eq_true rfl) ⟨Nat.le_refl _, Nat.le_refl _⟩ rfl (fun r2 m1 hJ => ?_)
  refine zq_if_eq (tgt := 24) d_Table_worth_4 (by decide) (fun c => ?_) (fun c => ?_)
  · have hJ := hJ.1 c
    refine zr_less (L' := [some (.ref 0), some (.int a1), some (.int a2), none]) ⟨rfl, ⟨rfl, ⟨rfl, trivial⟩⟩⟩ ?_
    exact s_Table_worth_L24    hJ
  · have hJ := hJ.2 c
    refine zq_aload_n d_Table_worth_7 rfl rfl ?_
    refine zm_getR fg_Table_11 d_Table_worth_8 zs_Table rfl ?_
    refine zq_iload_n d_Table_worth_11 rfl rfl ?_
    obtain ⟨hb3, hJ⟩ := hJ
    refine zm_pld d_Table_worth_12 hb3 ?_
    refine zm_getR fg_Table_130 d_Table_worth_13 (zm_pl_of hb3).s rfl ?_
    refine zm_getL fg_Table_213 d_Table_worth_16 (zm_pl.w (zm_pl_of hb3)).s rfl ?_
    refine zq_lconst (v := 0) d_Table_worth_19 zk_l0 ?_
    refine zq_lcmp d_Table_worth_20 ?_
    refine zq_if_ne (tgt := 26) d_Table_worth_21 (by decide) (fun c => ?_) (fun c => ?_)
    · have hJ := hJ.1 c
      refine zq_aload_n d_Table_worth_26 rfl rfl ?_
      refine zm_getR fg_Table_11 d_Table_worth_27 zs_Table rfl ?_
      refine zq_iload_n d_Table_worth_30 rfl rfl ?_
      obtain ⟨hb4, hJ⟩ := hJ
      refine zm_pld d_Table_worth_31 hb4 ?_
      refine zm_getR fg_Table_130 d_Table_worth_32 (zm_pl_of hb4).s rfl ?_
      refine zr_topr (fun y5 hy5 => ?_)
      have hJ := hJ y5 hy5
      refine zr_astore_n (L' := [some (.ref 0), some (.int a1), some (.int a2), some (.ref y5)]) d_Table_worth_35 rfl (Nat.le_of_ble_eq_true rfl) rfl ?_
      refine zq_iload_n d_Table_worth_36 rfl rfl ?_
      rcases Classical.em (Int32.toInt a2 < 0 ∨ ((3 : Nat) : Int) < Int32.toInt a2) with hsw | hsw
      · have hJ := hJ.1 hsw
        refine zq_swOut (tgt := 88) d_Table_worth_37 hsw (by decide) ?_
        refine zq_iconst (v := (-1)) d_Table_worth_88 zk_im1 ?_
        exact zq_iret d_Table_worth_89 rfl rfl (Nat.le_refl _) (Nat.le_refl _) ⟨_, _, rfl, rfl, hJ⟩
      · obtain ⟨jsw, hj1, hj2, hj3⟩ := zr_sw (by decide) hsw
        have hJ := hJ.2
        match jsw, hj1, hj2, hj3 with
        | 0, _, hj2, hj3 =>
          have hJ := hJ.1 hj2
          refine zq_swIn (tgt := 68) d_Table_worth_37 (fun h => hsw (Or.inl h)) (fun h => hsw (Or.inr h)) (off := 31) (by rw [hj3]; rfl) (by decide) ?_
          refine zq_aload_n d_Table_worth_68 rfl rfl ?_
          refine zm_getI fg_Table_166 d_Table_worth_69 (hy5.symm ▸ (zm_pl.w (zm_pl_of hb4)) : zm_wo y5).s rfl ?_
          exact zq_iret d_Table_worth_72 rfl rfl (Nat.le_refl _) (Nat.le_refl _) ⟨_, _, rfl, rfl, hJ⟩
        | 1, _, hj2, hj3 =>
          have hJ := hJ.2.1 hj2
          refine zq_swIn (tgt := 73) d_Table_worth_37 (fun h => hsw (Or.inl h)) (fun h => hsw (Or.inr h)) (off := 36) (by rw [hj3]; rfl) (by decide) ?_
          refine zq_aload_n d_Table_worth_73 rfl rfl ?_
          refine zm_getI fg_Table_217 d_Table_worth_74 (hy5.symm ▸ (zm_pl.w (zm_pl_of hb4)) : zm_wo y5).s rfl ?_
          exact zq_iret d_Table_worth_77 rfl rfl (Nat.le_refl _) (Nat.le_refl _) ⟨_, _, rfl, rfl, hJ⟩
        | 2, _, hj2, hj3 =>
          have hJ := hJ.2.2.1 hj2
          refine zq_swIn (tgt := 78) d_Table_worth_37 (fun h => hsw (Or.inl h)) (fun h => hsw (Or.inr h)) (off := 41) (by rw [hj3]; rfl) (by decide) ?_
          refine zq_aload_n d_Table_worth_78 rfl rfl ?_
          refine zm_getI fg_Table_143 d_Table_worth_79 (hy5.symm ▸ (zm_pl.w (zm_pl_of hb4)) : zm_wo y5).s rfl ?_
          exact zq_iret d_Table_worth_82 rfl rfl (Nat.le_refl _) (Nat.le_refl _) ⟨_, _, rfl, rfl, hJ⟩
        | 3, _, hj2, hj3 =>
          have hJ := hJ.2.2.2 hj2
          refine zq_swIn (tgt := 83) d_Table_worth_37 (fun h => hsw (Or.inl h)) (fun h => hsw (Or.inr h)) (off := 46) (by rw [hj3]; rfl) (by decide) ?_
          refine zq_aload_n d_Table_worth_83 rfl rfl ?_
          refine zm_getI fg_Table_159 d_Table_worth_84 (hy5.symm ▸ (zm_pl.w (zm_pl_of hb4)) : zm_wo y5).s rfl ?_
          exact zq_iret d_Table_worth_87 rfl rfl (Nat.le_refl _) (Nat.le_refl _) ⟨_, _, rfl, rfl, hJ⟩
        | jsw + 4, hj1, _, _ => exact absurd hj1 (by omega)
    · have hJ := hJ.2 c
      refine zr_less (L' := [some (.ref 0), some (.int a1), some (.int a2), none]) ⟨rfl, ⟨rfl, ⟨rfl, trivial⟩⟩⟩ ?_
      exact s_Table_worth_L24    hJ
set_option maxHeartbeats 400000 in
theorem s_Table_yaku_L23 {g : zk_T} {a1 : Int32} {K : Int64 → zm → Prop} {t0 : Int64} {m : zm} (hJ : j_Table_yaku_L23 a1  K t0 m) : zq_V (zk_g g) ("RiichiTable", prog_1_method_21_code, 2, (some .long), false, zq_rm 1 0 0) 0 0 23 [some (.ref 0), some (.int a1)] [.long t0] (zm_hp m) (zm_QL K) := by
  unfold j_Table_yaku_L23 at hJ
  exact zq_lret d_Table_yaku_23 rfl (Nat.le_refl _) (Nat.le_refl _) ⟨_, _, rfl, rfl, hJ⟩
set_option maxHeartbeats 400000 in
theorem s_Table_yaku {g : zk_T} {a1 : Int32} {K : Int64 → zm → Prop} {m : zm} (hJ : j_Table_yaku a1 m K) : zq_Mt (zk_g g) y_Table_yaku 1 0 0 [.ref 0, .int a1] (zm_hp m) (zm_QL K) := by
  unfold j_Table_yaku at hJ
  refine zq_meth (ini := false) rfl (fun h => by cases h) (Nat.le_of_ble_eq_true rfl) ?_
  refine zr_L (F := ("RiichiTable", prog_1_method_21_code, 2, (some .long), false, zq_rm 1 0 0)) (L' := [some (.ref 0), some (.int a1)]) rfl ?_
  refine zq_iload_n d_Table_yaku_0 rfl rfl ?_
  refine zr_csI (as := [.int a1]) (st := []) d_Table_yaku_1 cc_Table_169 cs_Table_isPlayer (s_Table_isPlayer  hJ) rfl ⟨Nat.le_of_ble_eq_true rfl, Nat.le_of_ble_eq_true rfl⟩ (Nat.le_of_ble_eq_true rfl) ⟨Nat.le_refl _, Nat.le_refl _⟩ rfl (fun r2 m1 hJ => ?_)
  refine zq_if_eq (tgt := 22) d_Table_yaku_4 (by decide) (fun c => ?_) (fun c => ?_)
  · have hJ := hJ.1 c
    refine zq_lconst (v := 0) d_Table_yaku_22 zk_l0 ?_
    refine zr_less (L' := [some (.ref 0), some (.int a1)]) ⟨rfl, ⟨rfl, trivial⟩⟩ ?_
    exact s_Table_yaku_L23    hJ
  · have hJ := hJ.2 c
    refine zq_aload_n d_Table_yaku_7 rfl rfl ?_
    refine zm_getR fg_Table_11 d_Table_yaku_8 zs_Table rfl ?_
    refine zq_iload_n d_Table_yaku_11 rfl rfl ?_
    obtain ⟨hb3, hJ⟩ := hJ
    refine zm_pld d_Table_yaku_12 hb3 ?_
    refine zm_getR fg_Table_130 d_Table_yaku_13 (zm_pl_of hb3).s rfl ?_
    refine zm_getL fg_Table_213 d_Table_yaku_16 (zm_pl.w (zm_pl_of hb3)).s rfl ?_
    refine zq_goto (tgt := 23) d_Table_yaku_19 (by decide) ?_
    refine zr_less (L' := [some (.ref 0), some (.int a1)]) ⟨rfl, ⟨rfl, trivial⟩⟩ ?_
    exact s_Table_yaku_L23    hJ
set_option maxHeartbeats 400000 in
theorem s_Table_state {g : zk_T} {K : Int32 → zm → Prop} {m : zm} (hJ : j_Table_state  m K) : zq_Mt (zk_g g) y_Table_state 0 0 0 [.ref 0] (zm_hp m) (zm_QI K) := by
  unfold j_Table_state at hJ
  refine zq_meth (ini := false) rfl (fun h => by cases h) (Nat.le_of_ble_eq_true rfl) ?_
  refine zr_L (F := ("RiichiTable", prog_1_method_22_code, 1, (some .int), false, zq_rm 0 0 0)) (L' := [some (.ref 0)]) rfl ?_
  refine zq_aload_n d_Table_state_0 rfl rfl ?_
  refine zm_getR fg_Table_34 d_Table_state_1 zs_Table rfl ?_
  refine zm_getI fg_Table_220 d_Table_state_4 zs_Wall rfl ?_
  exact zq_iret d_Table_state_7 rfl rfl (Nat.le_refl _) (Nat.le_refl _) ⟨_, _, rfl, rfl, hJ⟩
set_option maxHeartbeats 400000 in
theorem s_Model_draw {g : zk_T} {a1 : Int32} {K : Int32 → zm → Prop} {m : zm} (hJ : j_Model_draw a1 m K) : zq_Mt (zk_g g) y_Model_draw 0 0 0 [.ref 33, .int a1] (zm_hp m) (zm_QI K) := by
  unfold j_Model_draw at hJ
  refine zq_meth (ini := false) rfl (fun h => by cases h) (Nat.le_of_ble_eq_true rfl) ?_
  refine zr_L (F := ("RiichiTableModel", prog_9_method_2_code, 2, (some .int), false, zq_rm 0 0 0)) (L' := [some (.ref 33), some (.int a1)]) rfl ?_
  refine zq_aload_n d_Model_draw_0 rfl rfl ?_
  refine zq_aload_n d_Model_draw_1 rfl rfl ?_
  refine zm_getI fg_Model_78 d_Model_draw_2 zs_Model rfl ?_
  refine zq_aload_n d_Model_draw_5 rfl rfl ?_
  refine zm_getI fg_Model_78 d_Model_draw_6 zs_Model rfl ?_
  refine zq_bipush (v := 13) d_Model_draw_9 zk_b13 ?_
  refine zq_ishl d_Model_draw_11 ?_
  refine zq_ixor d_Model_draw_12 ?_
  refine zr_putI fl_Model_78 d_Model_draw_13 zs_Model rfl rfl (fun m1 hm1 => ?_)
  have hJ := hJ m1 hm1
  refine zq_aload_n d_Model_draw_16 rfl rfl ?_
  refine zq_aload_n d_Model_draw_17 rfl rfl ?_
  refine zm_getI fg_Model_78 d_Model_draw_18 zs_Model rfl ?_
  refine zq_aload_n d_Model_draw_21 rfl rfl ?_
  refine zm_getI fg_Model_78 d_Model_draw_22 zs_Model rfl ?_
  refine zq_bipush (v := 17) d_Model_draw_25 zk_b17 ?_
  refine zq_iushr d_Model_draw_27 ?_
  refine zq_ixor d_Model_draw_28 ?_
  refine zr_putI fl_Model_78 d_Model_draw_29 zs_Model rfl rfl (fun m2 hm2 => ?_)
  have hJ := hJ m2 hm2
  refine zq_aload_n d_Model_draw_32 rfl rfl ?_
  refine zq_aload_n d_Model_draw_33 rfl rfl ?_
  refine zm_getI fg_Model_78 d_Model_draw_34 zs_Model rfl ?_
  refine zq_aload_n d_Model_draw_37 rfl rfl ?_
  refine zm_getI fg_Model_78 d_Model_draw_38 zs_Model rfl ?_
  refine zq_iconst (v := 5) d_Model_draw_41 zk_i5 ?_
  refine zq_ishl d_Model_draw_42 ?_
  refine zq_ixor d_Model_draw_43 ?_
  refine zr_putI fl_Model_78 d_Model_draw_44 zs_Model rfl rfl (fun m3 hm3 => ?_)
  have hJ := hJ m3 hm3
  refine zq_aload_n d_Model_draw_47 rfl rfl ?_
  refine zm_getI fg_Model_78 d_Model_draw_48 zs_Model rfl ?_
  refine zq_ldc (v := 2147483647) (zq_in (zq_c4 (List.mem_of_getElem? (i := 74) rfl)) rfl) d_Model_draw_51 ?_
  refine zq_iand d_Model_draw_53 ?_
  refine zq_iload_n d_Model_draw_54 rfl rfl ?_
  obtain ⟨hz, hJ⟩ := hJ
  refine zq_irem d_Model_draw_55 hz ?_
  exact zq_iret d_Model_draw_56 rfl rfl (Nat.le_refl _) (Nat.le_refl _) ⟨_, _, rfl, rfl, hJ⟩
set_option maxHeartbeats 400000 in
theorem s_Model_shuffle_L28 {g : zk_T} {K : zm → Prop} : ∀ (n : Nat) {x1 : Int32} {m : zm}, j_Model_shuffle_L28   K n x1 m → zq_V (zk_g g) ("RiichiTableModel", prog_9_method_3_code, 4, none, false, zq_rm 1 0 0) 0 0 28 [some (.ref 33), some (.int x1), none, none] [] (zm_hp m) (zm_QV K) := by
  intro n
  induction n with
  | zero =>
    intro x1 m hJ
    exact False.elim hJ
  | succ n ih =>
    intro x1 m hJ
    rw [j_Model_shuffle_L28] at hJ
    refine zq_iload_n d_Model_shuffle_28 rfl rfl ?_
    refine zq_if_le (tgt := 72) d_Model_shuffle_29 (by decide) (fun c => ?_) (fun c => ?_)
    · have hJ := hJ.1 c
      refine zq_aload_n d_Model_shuffle_72 rfl rfl ?_
      refine zq_iconst (v := 0) d_Model_shuffle_73 zk_i0 ?_
      refine zr_putI fl_Model_90 d_Model_shuffle_74 zs_Model rfl rfl (fun m3 hm3 => ?_)
      have hJ := hJ m3 hm3
      refine zq_aload_n d_Model_shuffle_77 rfl rfl ?_
      refine zq_iconst (v := 0) d_Model_shuffle_78 zk_i0 ?_
      refine zr_putI fl_Model_93 d_Model_shuffle_79 zs_Model rfl rfl (fun m4 hm4 => ?_)
      have hJ := hJ m4 hm4
      exact zq_vret d_Model_shuffle_82 rfl (Nat.le_refl _) (Nat.le_refl _) ⟨_, rfl, rfl, hJ⟩
    · have hJ := hJ.2 c
      refine zq_aload_n d_Model_shuffle_32 rfl rfl ?_
      refine zq_iload_n d_Model_shuffle_33 rfl rfl ?_
      refine zq_iconst (v := 1) d_Model_shuffle_34 zk_i1 ?_
      refine zq_iadd d_Model_shuffle_35 ?_
      refine zr_cvI (q := 33) (as := [.int (x1 + 1)]) (st := []) d_Model_shuffle_36 cc_Model_86 cv_Model_draw zs_Model (s_Model_draw  hJ) rfl ⟨Nat.le_of_ble_eq_true rfl, Nat.le_of_ble_eq_true rfl⟩ (Nat.le_of_ble_eq_true rfl) ⟨Nat.le_refl _, Nat.le_refl _⟩ rfl (fun r6 m5 hJ => ?_)
      refine zr_istore_n (L' := [some (.ref 33), some (.int x1), some (.int r6), none]) d_Model_shuffle_39 rfl (Nat.le_of_ble_eq_true rfl) rfl ?_
      refine zq_aload_n d_Model_shuffle_40 rfl rfl ?_
      refine zm_getR fg_Model_7 d_Model_shuffle_41 zs_Model rfl ?_
      refine zq_iload_n d_Model_shuffle_44 rfl rfl ?_
      obtain ⟨hb, hJ⟩ := hJ
      refine zm_ald d_Model_shuffle_45 (rfl : zm_sh[34]? = some (.inl (0, 136, .inl (fun _ => 0)))) hb ?_
      refine zr_topi (fun y7 hy7 => ?_)
      have hJ := hJ y7 hy7
      refine zr_istore_n (L' := [some (.ref 33), some (.int x1), some (.int r6), some (.int y7)]) d_Model_shuffle_46 rfl (Nat.le_of_ble_eq_true rfl) rfl ?_
      refine zq_aload_n d_Model_shuffle_47 rfl rfl ?_
      refine zm_getR fg_Model_7 d_Model_shuffle_48 zs_Model rfl ?_
      refine zq_iload_n d_Model_shuffle_51 rfl rfl ?_
      refine zq_aload_n d_Model_shuffle_52 rfl rfl ?_
      refine zm_getR fg_Model_7 d_Model_shuffle_53 zs_Model rfl ?_
      refine zq_iload_n d_Model_shuffle_56 rfl rfl ?_
      obtain ⟨hb, hJ⟩ := hJ
      refine zm_ald d_Model_shuffle_57 (rfl : zm_sh[34]? = some (.inl (0, 136, .inl (fun _ => 0)))) hb ?_
      obtain ⟨hb, hJ⟩ := hJ
      refine zr_ast d_Model_shuffle_58 (rfl : zm_sh[34]? = some (.inl (0, 136, .inl (fun _ => 0)))) hb (fun m8 hm8 => ?_)
      have hJ := hJ m8 hm8
      refine zq_aload_n d_Model_shuffle_59 rfl rfl ?_
      refine zm_getR fg_Model_7 d_Model_shuffle_60 zs_Model rfl ?_
      refine zq_iload_n d_Model_shuffle_63 rfl rfl ?_
      refine zq_iload_n d_Model_shuffle_64 rfl rfl ?_
      obtain ⟨hb, hJ⟩ := hJ
      refine zr_ast d_Model_shuffle_65 (rfl : zm_sh[34]? = some (.inl (0, 136, .inl (fun _ => 0)))) hb (fun m9 hm9 => ?_)
      have hJ := hJ m9 hm9
      refine zr_iinc (d' := (-1)) d_Model_shuffle_66 zk_im1 rfl (Nat.le_of_ble_eq_true rfl) (fun y10 hy10 => ?_)
      have hJ := hJ y10 hy10
      refine zr_L (L' := [some (.ref 33), some (.int y10), some (.int r6), some (.int y7)]) rfl ?_
      refine zq_goto (tgt := 28) d_Model_shuffle_69 (by decide) ?_
      refine zr_less (L' := [some (.ref 33), some (.int y10), none, none]) ⟨rfl, ⟨rfl, trivial⟩⟩ ?_
      exact ih  hJ
set_option maxHeartbeats 400000 in
theorem s_Model_shuffle_L2 {g : zk_T} {K : zm → Prop} : ∀ (n : Nat) {x1 : Int32} {m : zm}, j_Model_shuffle_L2   K n x1 m → zq_V (zk_g g) ("RiichiTableModel", prog_9_method_3_code, 4, none, false, zq_rm 1 0 0) 0 0 2 [some (.ref 33), some (.int x1), none, none] [] (zm_hp m) (zm_QV K) := by
  intro n
  induction n with
  | zero =>
    intro x1 m hJ
    exact False.elim hJ
  | succ n ih =>
    intro x1 m hJ
    rw [j_Model_shuffle_L2] at hJ
    refine zq_iload_n d_Model_shuffle_2 rfl rfl ?_
    refine zq_sipush (v := 136) d_Model_shuffle_3 zk_s136 ?_
    refine zq_icmp_ge (tgt := 24) d_Model_shuffle_6 (by decide) (fun c => ?_) (fun c => ?_)
    · have hJ := hJ.1 c
      refine zq_sipush (v := 135) d_Model_shuffle_24 zk_s135 ?_
      refine zr_istore_n (L' := [some (.ref 33), some (.int 135), none, none]) d_Model_shuffle_27 rfl (Nat.le_of_ble_eq_true rfl) rfl ?_
      refine zr_less (L' := [some (.ref 33), some (.int 135), none, none]) ⟨rfl, ⟨rfl, trivial⟩⟩ ?_
      obtain ⟨n28, hJ⟩ := hJ
      exact s_Model_shuffle_L28   n28  hJ
    · have hJ := hJ.2 c
      refine zq_aload_n d_Model_shuffle_9 rfl rfl ?_
      refine zm_getR fg_Model_7 d_Model_shuffle_10 zs_Model rfl ?_
      refine zq_iload_n d_Model_shuffle_13 rfl rfl ?_
      refine zq_iload_n d_Model_shuffle_14 rfl rfl ?_
      refine zq_iconst (v := 4) d_Model_shuffle_15 zk_i4 ?_
      refine zq_idiv d_Model_shuffle_16 (by decide) ?_
      obtain ⟨hb, hJ⟩ := hJ
      refine zr_ast d_Model_shuffle_17 (rfl : zm_sh[34]? = some (.inl (0, 136, .inl (fun _ => 0)))) hb (fun m1 hm1 => ?_)
      have hJ := hJ m1 hm1
      refine zr_iinc (d' := 1) d_Model_shuffle_18 zk_i1 rfl (Nat.le_of_ble_eq_true rfl) (fun y2 hy2 => ?_)
      have hJ := hJ y2 hy2
      refine zr_L (L' := [some (.ref 33), some (.int y2), none, none]) rfl ?_
      refine zq_goto (tgt := 2) d_Model_shuffle_21 (by decide) ?_
      refine zr_less (L' := [some (.ref 33), some (.int y2), none, none]) ⟨rfl, ⟨rfl, trivial⟩⟩ ?_
      exact ih  hJ
set_option maxHeartbeats 400000 in
theorem s_Model_shuffle {g : zk_T} {K : zm → Prop} {m : zm} (hJ : j_Model_shuffle  m K) : zq_Mt (zk_g g) y_Model_shuffle 1 0 0 [.ref 33] (zm_hp m) (zm_QV K) := by
  unfold j_Model_shuffle at hJ
  refine zq_meth (ini := false) rfl (fun h => by cases h) (Nat.le_of_ble_eq_true rfl) ?_
  refine zr_L (F := ("RiichiTableModel", prog_9_method_3_code, 4, none, false, zq_rm 1 0 0)) (L' := [some (.ref 33), none, none, none]) rfl ?_
  refine zq_iconst (v := 0) d_Model_shuffle_0 zk_i0 ?_
  refine zr_istore_n (L' := [some (.ref 33), some (.int 0), none, none]) d_Model_shuffle_1 rfl (Nat.le_of_ble_eq_true rfl) rfl ?_
  refine zr_less (L' := [some (.ref 33), some (.int 0), none, none]) ⟨rfl, ⟨rfl, trivial⟩⟩ ?_
  obtain ⟨n2, hJ⟩ := hJ
  exact s_Model_shuffle_L2   n2  hJ
set_option maxHeartbeats 400000 in
theorem s_Model_arrange_L28 {g : zk_T} {a1 : Int32} {a2 : Int32} {K : Int32 → zm → Prop} {m : zm} (hJ : j_Model_arrange_L28 a1 a2  K  m) : zq_V (zk_g g) ("RiichiTableModel", prog_9_method_4_code, 4, (some .boolean), false, zq_rm 0 0 0) 0 0 28 [some (.ref 33), some (.int a1), some (.int a2), none] [] (zm_hp m) (zm_QI K) := by
  unfold j_Model_arrange_L28 at hJ
  refine zq_iconst (v := 0) d_Model_arrange_28 zk_i0 ?_
  exact zq_iret d_Model_arrange_29 rfl (zm_isB.nar (Or.inl rfl)) (Nat.le_refl _) (Nat.le_refl _) ⟨_, _, rfl, rfl, hJ⟩
set_option maxHeartbeats 400000 in
theorem s_Model_arrange_L32 {g : zk_T} {a1 : Int32} {a2 : Int32} {K : Int32 → zm → Prop} : ∀ (n : Nat) {x3 : Int32} {m : zm}, j_Model_arrange_L32 a1 a2  K n x3 m → zq_V (zk_g g) ("RiichiTableModel", prog_9_method_4_code, 4, (some .boolean), false, zq_rm 0 0 0) 0 0 32 [some (.ref 33), some (.int a1), some (.int a2), some (.int x3)] [] (zm_hp m) (zm_QI K) := by
  intro n
  induction n with
  | zero =>
    intro x3 m hJ
    exact False.elim hJ
  | succ n ih =>
    intro x3 m hJ
    rw [j_Model_arrange_L32] at hJ
    refine zq_iload_n d_Model_arrange_32 rfl rfl ?_
    refine zq_sipush (v := 136) d_Model_arrange_33 zk_s136 ?_
    refine zq_icmp_ge (tgt := 76) d_Model_arrange_36 (by decide) (fun c => ?_) (fun c => ?_)
    · have hJ := hJ.1 c
      refine zq_iconst (v := 0) d_Model_arrange_76 zk_i0 ?_
      exact zq_iret d_Model_arrange_77 rfl (zm_isB.nar (Or.inl rfl)) (Nat.le_refl _) (Nat.le_refl _) ⟨_, _, rfl, rfl, hJ⟩
    · have hJ := hJ.2 c
      refine zq_aload_n d_Model_arrange_39 rfl rfl ?_
      refine zm_getR fg_Model_7 d_Model_arrange_40 zs_Model rfl ?_
      refine zq_iload_n d_Model_arrange_43 rfl rfl ?_
      obtain ⟨hb, hJ⟩ := hJ
      refine zm_ald d_Model_arrange_44 (rfl : zm_sh[34]? = some (.inl (0, 136, .inl (fun _ => 0)))) hb ?_
      refine zq_iload_n d_Model_arrange_45 rfl rfl ?_
      refine zq_icmp_ne (tgt := 70) d_Model_arrange_46 (by decide) (fun c => ?_) (fun c => ?_)
      · have hJ := hJ.1 c
        refine zr_iinc (d' := 1) d_Model_arrange_70 zk_i1 rfl (Nat.le_of_ble_eq_true rfl) (fun y1 hy1 => ?_)
        have hJ := hJ y1 hy1
        refine zr_L (L' := [some (.ref 33), some (.int a1), some (.int a2), some (.int y1)]) rfl ?_
        refine zq_goto (tgt := 32) d_Model_arrange_73 (by decide) ?_
        refine zr_less (L' := [some (.ref 33), some (.int a1), some (.int a2), some (.int y1)]) ⟨rfl, ⟨rfl, ⟨rfl, ⟨rfl, trivial⟩⟩⟩⟩ ?_
        exact ih  hJ
      · have hJ := hJ.2 c
        refine zq_aload_n d_Model_arrange_49 rfl rfl ?_
        refine zm_getR fg_Model_7 d_Model_arrange_50 zs_Model rfl ?_
        refine zq_iload_n d_Model_arrange_53 rfl rfl ?_
        refine zq_aload_n d_Model_arrange_54 rfl rfl ?_
        refine zm_getR fg_Model_7 d_Model_arrange_55 zs_Model rfl ?_
        refine zq_iload_n d_Model_arrange_58 rfl rfl ?_
        obtain ⟨hb, hJ⟩ := hJ
        refine zm_ald d_Model_arrange_59 (rfl : zm_sh[34]? = some (.inl (0, 136, .inl (fun _ => 0)))) hb ?_
        obtain ⟨hb, hJ⟩ := hJ
        refine zr_ast d_Model_arrange_60 (rfl : zm_sh[34]? = some (.inl (0, 136, .inl (fun _ => 0)))) hb (fun m2 hm2 => ?_)
        have hJ := hJ m2 hm2
        refine zq_aload_n d_Model_arrange_61 rfl rfl ?_
        refine zm_getR fg_Model_7 d_Model_arrange_62 zs_Model rfl ?_
        refine zq_iload_n d_Model_arrange_65 rfl rfl ?_
        refine zq_iload_n d_Model_arrange_66 rfl rfl ?_
        obtain ⟨hb, hJ⟩ := hJ
        refine zr_ast d_Model_arrange_67 (rfl : zm_sh[34]? = some (.inl (0, 136, .inl (fun _ => 0)))) hb (fun m3 hm3 => ?_)
        have hJ := hJ m3 hm3
        refine zq_iconst (v := 1) d_Model_arrange_68 zk_i1 ?_
        exact zq_iret d_Model_arrange_69 rfl (zm_isB.nar (Or.inr rfl)) (Nat.le_refl _) (Nat.le_refl _) ⟨_, _, rfl, rfl, hJ⟩
set_option maxHeartbeats 400000 in
theorem s_Model_arrange {g : zk_T} {a1 : Int32} {a2 : Int32} {K : Int32 → zm → Prop} {m : zm} (hJ : j_Model_arrange a1 a2 m K) : zq_Mt (zk_g g) y_Model_arrange 0 0 0 [.ref 33, .int a1, .int a2] (zm_hp m) (zm_QI K) := by
  unfold j_Model_arrange at hJ
  refine zq_meth (ini := false) rfl (fun h => by cases h) (Nat.le_of_ble_eq_true rfl) ?_
  refine zr_L (F := ("RiichiTableModel", prog_9_method_4_code, 4, (some .boolean), false, zq_rm 0 0 0)) (L' := [some (.ref 33), some (.int a1), some (.int a2), none]) rfl ?_
  refine zq_aload_n d_Model_arrange_0 rfl rfl ?_
  refine zm_getI fg_Model_90 d_Model_arrange_1 zs_Model rfl ?_
  refine zq_if_ne (tgt := 28) d_Model_arrange_4 (by decide) (fun c => ?_) (fun c => ?_)
  · have hJ := hJ.1 c
    refine zr_less (L' := [some (.ref 33), some (.int a1), some (.int a2), none]) ⟨rfl, ⟨rfl, ⟨rfl, trivial⟩⟩⟩ ?_
    exact s_Model_arrange_L28    hJ
  · have hJ := hJ.2 c
    refine zq_iload_n d_Model_arrange_7 rfl rfl ?_
    refine zq_if_lt (tgt := 28) d_Model_arrange_8 (by decide) (fun c => ?_) (fun c => ?_)
    · have hJ := hJ.1 c
      refine zr_less (L' := [some (.ref 33), some (.int a1), some (.int a2), none]) ⟨rfl, ⟨rfl, ⟨rfl, trivial⟩⟩⟩ ?_
      exact s_Model_arrange_L28    hJ
    · have hJ := hJ.2 c
      refine zq_iload_n d_Model_arrange_11 rfl rfl ?_
      refine zq_sipush (v := 135) d_Model_arrange_12 zk_s135 ?_
      refine zq_icmp_gt (tgt := 28) d_Model_arrange_15 (by decide) (fun c => ?_) (fun c => ?_)
      · have hJ := hJ.1 c
        refine zr_less (L' := [some (.ref 33), some (.int a1), some (.int a2), none]) ⟨rfl, ⟨rfl, ⟨rfl, trivial⟩⟩⟩ ?_
        exact s_Model_arrange_L28    hJ
      · have hJ := hJ.2 c
        refine zq_iload_n d_Model_arrange_18 rfl rfl ?_
        refine zq_if_lt (tgt := 28) d_Model_arrange_19 (by decide) (fun c => ?_) (fun c => ?_)
        · have hJ := hJ.1 c
          refine zr_less (L' := [some (.ref 33), some (.int a1), some (.int a2), none]) ⟨rfl, ⟨rfl, ⟨rfl, trivial⟩⟩⟩ ?_
          exact s_Model_arrange_L28    hJ
        · have hJ := hJ.2 c
          refine zq_iload_n d_Model_arrange_22 rfl rfl ?_
          refine zq_bipush (v := 33) d_Model_arrange_23 zk_b33 ?_
          refine zq_icmp_le (tgt := 30) d_Model_arrange_25 (by decide) (fun c => ?_) (fun c => ?_)
          · have hJ := hJ.1 c
            refine zq_iload_n d_Model_arrange_30 rfl rfl ?_
            refine zr_istore_n (L' := [some (.ref 33), some (.int a1), some (.int a2), some (.int a1)]) d_Model_arrange_31 rfl (Nat.le_of_ble_eq_true rfl) rfl ?_
            refine zr_less (L' := [some (.ref 33), some (.int a1), some (.int a2), some (.int a1)]) ⟨rfl, ⟨rfl, ⟨rfl, ⟨rfl, trivial⟩⟩⟩⟩ ?_
            obtain ⟨n32, hJ⟩ := hJ
            exact s_Model_arrange_L32   n32  hJ
          · have hJ := hJ.2 c
            refine zr_less (L' := [some (.ref 33), some (.int a1), some (.int a2), none]) ⟨rfl, ⟨rfl, ⟨rfl, trivial⟩⟩⟩ ?_
            exact s_Model_arrange_L28    hJ
set_option maxHeartbeats 400000 in
theorem s_Model_end_L82 {g : zk_T} {a1 : Int32} {a2 : Int32} {R54 : Int32 → Int32 → zm → Prop} {K : zm → Prop} (hR54 : ∀ {x3 : Int32} {x4 : Int32} {m : zm}, R54 x3 x4 m → zq_V (zk_g g) ("RiichiTableModel", prog_9_method_69_code, 5, none, false, zq_rm 0 0 0) 0 0 54 [some (.ref 33), some (.int a1), some (.int a2), some (.int x3), some (.int x4)] [] (zm_hp m) (zm_QV K)) {x4 : Int32} {t0 : Int32} {m : zm} (hJ : j_Model_end_L82 a1 a2 R54 K x4 t0 m) : zq_V (zk_g g) ("RiichiTableModel", prog_9_method_69_code, 5, none, false, zq_rm 0 0 0) 0 0 82 [some (.ref 33), some (.int a1), some (.int a2), none, some (.int x4)] [.int t0] (zm_hp m) (zm_QV K) := by
  unfold j_Model_end_L82 at hJ
  refine zr_istore_n (L' := [some (.ref 33), some (.int a1), some (.int a2), some (.int t0), some (.int x4)]) d_Model_end_82 rfl (Nat.le_of_ble_eq_true rfl) rfl ?_
  refine zr_iinc (d' := 1) d_Model_end_83 zk_i1 rfl (Nat.le_of_ble_eq_true rfl) (fun y6 hy6 => ?_)
  have hJ := hJ y6 hy6
  refine zr_L (L' := [some (.ref 33), some (.int a1), some (.int a2), some (.int t0), some (.int y6)]) rfl ?_
  refine zq_goto (tgt := 54) d_Model_end_86 (by decide) ?_
  refine zr_less (L' := [some (.ref 33), some (.int a1), some (.int a2), some (.int t0), some (.int y6)]) ⟨rfl, ⟨rfl, ⟨rfl, ⟨rfl, ⟨rfl, trivial⟩⟩⟩⟩⟩ ?_
  exact hR54  hJ
set_option maxHeartbeats 400000 in
theorem s_Model_end_L151 {g : zk_T} {a1 : Int32} {a2 : Int32} {K : zm → Prop} {m : zm} (hJ : j_Model_end_L151 a1 a2  K  m) : zq_V (zk_g g) ("RiichiTableModel", prog_9_method_69_code, 5, none, false, zq_rm 0 0 0) 0 0 151 [some (.ref 33), some (.int a1), some (.int a2), none, none] [] (zm_hp m) (zm_QV K) := by
  unfold j_Model_end_L151 at hJ
  exact zq_vret d_Model_end_151 rfl (Nat.le_refl _) (Nat.le_refl _) ⟨_, rfl, rfl, hJ⟩
set_option maxHeartbeats 400000 in
theorem s_Model_end_L54 {g : zk_T} {a1 : Int32} {a2 : Int32} {K : zm → Prop} : ∀ (n : Nat) {x3 : Int32} {x4 : Int32} {m : zm}, j_Model_end_L54 a1 a2  K n x3 x4 m → zq_V (zk_g g) ("RiichiTableModel", prog_9_method_69_code, 5, none, false, zq_rm 0 0 0) 0 0 54 [some (.ref 33), some (.int a1), some (.int a2), some (.int x3), some (.int x4)] [] (zm_hp m) (zm_QV K) := by
  intro n
  induction n with
  | zero =>
    intro x3 x4 m hJ
    exact False.elim hJ
  | succ n ih =>
    intro x3 x4 m hJ
    rw [j_Model_end_L54] at hJ
    refine zq_iload d_Model_end_54 rfl ?_
    refine zq_iconst (v := 4) d_Model_end_56 zk_i4 ?_
    refine zq_icmp_ge (tgt := 89) d_Model_end_57 (by decide) (fun c => ?_) (fun c => ?_)
    · have hJ := hJ.1 c
      refine zq_aload_n d_Model_end_89 rfl rfl ?_
      refine zm_getR fg_Model_13 d_Model_end_90 zs_Model rfl ?_
      refine zq_iload_n d_Model_end_93 rfl rfl ?_
      refine zq_dup2 d_Model_end_94 rfl rfl ?_
      obtain ⟨hb, hJ⟩ := hJ
      refine zm_ald d_Model_end_95 (rfl : zm_sh[35]? = some (.inl (0, 4, .inl (fun _ => 0)))) hb ?_
      refine zq_sipush (v := 1000) d_Model_end_96 zk_s1000 ?_
      refine zq_aload_n d_Model_end_99 rfl rfl ?_
      refine zm_getI fg_Model_346 d_Model_end_100 zs_Model rfl ?_
      refine zq_imul d_Model_end_103 ?_
      refine zq_iadd d_Model_end_104 ?_
      obtain ⟨hb, hJ⟩ := hJ
      refine zr_ast d_Model_end_105 (rfl : zm_sh[35]? = some (.inl (0, 4, .inl (fun _ => 0)))) hb (fun m4 hm4 => ?_)
      have hJ := hJ m4 hm4
      refine zq_aload_n d_Model_end_106 rfl rfl ?_
      refine zq_iconst (v := 0) d_Model_end_107 zk_i0 ?_
      refine zr_putI fl_Model_346 d_Model_end_108 zs_Model rfl rfl (fun m5 hm5 => ?_)
      have hJ := hJ m5 hm5
      refine zq_goto (tgt := 151) d_Model_end_111 (by decide) ?_
      refine zr_less (L' := [some (.ref 33), some (.int a1), some (.int a2), none, none]) ⟨rfl, ⟨rfl, ⟨rfl, trivial⟩⟩⟩ ?_
      exact s_Model_end_L151    hJ
    · have hJ := hJ.2 c
      refine zq_aload_n d_Model_end_60 rfl rfl ?_
      refine zm_getR fg_Model_13 d_Model_end_61 zs_Model rfl ?_
      refine zq_iload d_Model_end_64 rfl ?_
      obtain ⟨hb, hJ⟩ := hJ
      refine zm_ald d_Model_end_66 (rfl : zm_sh[35]? = some (.inl (0, 4, .inl (fun _ => 0)))) hb ?_
      refine zq_aload_n d_Model_end_67 rfl rfl ?_
      refine zm_getR fg_Model_13 d_Model_end_68 zs_Model rfl ?_
      refine zq_iload_n d_Model_end_71 rfl rfl ?_
      obtain ⟨hb, hJ⟩ := hJ
      refine zm_ald d_Model_end_72 (rfl : zm_sh[35]? = some (.inl (0, 4, .inl (fun _ => 0)))) hb ?_
      refine zq_icmp_le (tgt := 81) d_Model_end_73 (by decide) (fun c => ?_) (fun c => ?_)
      · have hJ := hJ.1 c
        refine zq_iload_n d_Model_end_81 rfl rfl ?_
        refine zr_less (L' := [some (.ref 33), some (.int a1), some (.int a2), none, some (.int x4)]) ⟨rfl, ⟨rfl, ⟨rfl, ⟨rfl, trivial⟩⟩⟩⟩ ?_
        exact s_Model_end_L82  ih  hJ
      · have hJ := hJ.2 c
        refine zq_iload d_Model_end_76 rfl ?_
        refine zq_goto (tgt := 82) d_Model_end_78 (by decide) ?_
        refine zr_less (L' := [some (.ref 33), some (.int a1), some (.int a2), none, some (.int x4)]) ⟨rfl, ⟨rfl, ⟨rfl, ⟨rfl, trivial⟩⟩⟩⟩ ?_
        exact s_Model_end_L82  ih  hJ
set_option maxHeartbeats 400000 in
theorem s_Model_end_L136 {g : zk_T} {a1 : Int32} {a2 : Int32} {K : zm → Prop} {t0 : Int32} {m : zm} (hJ : j_Model_end_L136 a1 a2  K t0 m) : zq_V (zk_g g) ("RiichiTableModel", prog_9_method_69_code, 5, none, false, zq_rm 0 0 0) 0 0 136 [some (.ref 33), some (.int a1), some (.int a2), none, none] [.int t0, .ref 33] (zm_hp m) (zm_QV K) := by
  unfold j_Model_end_L136 at hJ
  refine zr_putI fl_Model_216 d_Model_end_136 zs_Model rfl rfl (fun m7 hm7 => ?_)
  have hJ := hJ m7 hm7
  refine zq_aload_n d_Model_end_139 rfl rfl ?_
  refine zq_aload_n d_Model_end_140 rfl rfl ?_
  refine zm_getI fg_Model_96 d_Model_end_141 zs_Model rfl ?_
  refine zq_iconst (v := 1) d_Model_end_144 zk_i1 ?_
  refine zq_iadd d_Model_end_145 ?_
  refine zq_iconst (v := 4) d_Model_end_146 zk_i4 ?_
  refine zq_irem d_Model_end_147 (by decide) ?_
  refine zr_putI fl_Model_96 d_Model_end_148 zs_Model rfl rfl (fun m8 hm8 => ?_)
  have hJ := hJ m8 hm8
  refine zr_less (L' := [some (.ref 33), some (.int a1), some (.int a2), none, none]) ⟨rfl, ⟨rfl, ⟨rfl, trivial⟩⟩⟩ ?_
  exact s_Model_end_L151    hJ
set_option maxHeartbeats 400000 in
theorem s_Model_end_L114 {g : zk_T} {a1 : Int32} {a2 : Int32} {K : zm → Prop} {m : zm} (hJ : j_Model_end_L114 a1 a2  K  m) : zq_V (zk_g g) ("RiichiTableModel", prog_9_method_69_code, 5, none, false, zq_rm 0 0 0) 0 0 114 [some (.ref 33), some (.int a1), some (.int a2), none, none] [] (zm_hp m) (zm_QV K) := by
  unfold j_Model_end_L114 at hJ
  refine zq_aload_n d_Model_end_114 rfl rfl ?_
  refine zq_aload_n d_Model_end_115 rfl rfl ?_
  refine zm_getI fg_Model_96 d_Model_end_116 zs_Model rfl ?_
  refine zq_iconst (v := 3) d_Model_end_119 zk_i3 ?_
  refine zq_icmp_ne (tgt := 132) d_Model_end_120 (by decide) (fun c => ?_) (fun c => ?_)
  · have hJ := hJ.1 c
    refine zq_aload_n d_Model_end_132 rfl rfl ?_
    refine zm_getI fg_Model_216 d_Model_end_133 zs_Model rfl ?_
    refine zr_less (L' := [some (.ref 33), some (.int a1), some (.int a2), none, none]) ⟨rfl, ⟨rfl, ⟨rfl, trivial⟩⟩⟩ ?_
    exact s_Model_end_L136    hJ
  · have hJ := hJ.2 c
    refine zq_aload_n d_Model_end_123 rfl rfl ?_
    refine zm_getI fg_Model_216 d_Model_end_124 zs_Model rfl ?_
    refine zq_iconst (v := 1) d_Model_end_127 zk_i1 ?_
    refine zq_iadd d_Model_end_128 ?_
    refine zq_goto (tgt := 136) d_Model_end_129 (by decide) ?_
    refine zr_less (L' := [some (.ref 33), some (.int a1), some (.int a2), none, none]) ⟨rfl, ⟨rfl, ⟨rfl, trivial⟩⟩⟩ ?_
    exact s_Model_end_L136    hJ
set_option maxHeartbeats 400000 in
theorem s_Model_end_L15 {g : zk_T} {a1 : Int32} {a2 : Int32} {K : zm → Prop} {t0 : Int32} {m : zm} (hJ : j_Model_end_L15 a1 a2  K t0 m) : zq_V (zk_g g) ("RiichiTableModel", prog_9_method_69_code, 5, none, false, zq_rm 0 0 0) 0 0 15 [some (.ref 33), some (.int a1), some (.int a2), none, none] [.int t0, .ref 33] (zm_hp m) (zm_QV K) := by
  unfold j_Model_end_L15 at hJ
  refine zr_putI fl_Model_365 d_Model_end_15 zs_Model rfl rfl (fun m1 hm1 => ?_)
  have hJ := hJ m1 hm1
  refine zq_aload_n d_Model_end_18 rfl rfl ?_
  refine zq_iconst (v := 3) d_Model_end_19 zk_i3 ?_
  refine zr_putI fl_Model_90 d_Model_end_20 zs_Model rfl rfl (fun m2 hm2 => ?_)
  have hJ := hJ m2 hm2
  refine zq_iload_n d_Model_end_23 rfl rfl ?_
  refine zq_if_eq (tgt := 28) d_Model_end_24 (by decide) (fun c => ?_) (fun c => ?_)
  · have hJ := hJ.1 c
    refine zq_aload_n d_Model_end_28 rfl rfl ?_
    refine zm_getI fg_Model_96 d_Model_end_29 zs_Model rfl ?_
    refine zq_iconst (v := 3) d_Model_end_32 zk_i3 ?_
    refine zq_icmp_ne (tgt := 114) d_Model_end_33 (by decide) (fun c => ?_) (fun c => ?_)
    · have hJ := hJ.1 c
      refine zr_less (L' := [some (.ref 33), some (.int a1), some (.int a2), none, none]) ⟨rfl, ⟨rfl, ⟨rfl, trivial⟩⟩⟩ ?_
      exact s_Model_end_L114    hJ
    · have hJ := hJ.2 c
      refine zq_aload_n d_Model_end_36 rfl rfl ?_
      refine zm_getI fg_Model_216 d_Model_end_37 zs_Model rfl ?_
      refine zq_iconst (v := 1) d_Model_end_40 zk_i1 ?_
      refine zq_icmp_ne (tgt := 114) d_Model_end_41 (by decide) (fun c => ?_) (fun c => ?_)
      · have hJ := hJ.1 c
        refine zr_less (L' := [some (.ref 33), some (.int a1), some (.int a2), none, none]) ⟨rfl, ⟨rfl, ⟨rfl, trivial⟩⟩⟩ ?_
        exact s_Model_end_L114    hJ
      · have hJ := hJ.2 c
        refine zq_aload_n d_Model_end_44 rfl rfl ?_
        refine zq_iconst (v := 4) d_Model_end_45 zk_i4 ?_
        refine zr_putI fl_Model_90 d_Model_end_46 zs_Model rfl rfl (fun m3 hm3 => ?_)
        have hJ := hJ m3 hm3
        refine zq_iconst (v := 0) d_Model_end_49 zk_i0 ?_
        refine zr_istore_n (L' := [some (.ref 33), some (.int a1), some (.int a2), some (.int 0), none]) d_Model_end_50 rfl (Nat.le_of_ble_eq_true rfl) rfl ?_
        refine zq_iconst (v := 1) d_Model_end_51 zk_i1 ?_
        refine zr_istore (L' := [some (.ref 33), some (.int a1), some (.int a2), some (.int 0), some (.int 1)]) d_Model_end_52 (Nat.le_of_ble_eq_true rfl) rfl ?_
        refine zr_less (L' := [some (.ref 33), some (.int a1), some (.int a2), some (.int 0), some (.int 1)]) ⟨rfl, ⟨rfl, ⟨rfl, ⟨rfl, ⟨rfl, trivial⟩⟩⟩⟩⟩ ?_
        obtain ⟨n54, hJ⟩ := hJ
        exact s_Model_end_L54   n54  hJ
  · have hJ := hJ.2 c
    exact zq_vret d_Model_end_27 rfl (Nat.le_refl _) (Nat.le_refl _) ⟨_, rfl, rfl, hJ⟩
set_option maxHeartbeats 400000 in
theorem s_Model_end {g : zk_T} {a1 : Int32} {a2 : Int32} {K : zm → Prop} {m : zm} (hJ : j_Model_end a1 a2 m K) : zq_Mt (zk_g g) y_Model_end 0 0 0 [.ref 33, .int a1, .int a2] (zm_hp m) (zm_QV K) := by
  unfold j_Model_end at hJ
  refine zq_meth (ini := false) rfl (fun h => by cases h) (Nat.le_of_ble_eq_true rfl) ?_
  refine zr_L (F := ("RiichiTableModel", prog_9_method_69_code, 5, none, false, zq_rm 0 0 0)) (L' := [some (.ref 33), some (.int a1), some (.int a2), none, none]) rfl ?_
  refine zq_aload_n d_Model_end_0 rfl rfl ?_
  refine zq_iload_n d_Model_end_1 rfl rfl ?_
  refine zq_if_eq (tgt := 14) d_Model_end_2 (by decide) (fun c => ?_) (fun c => ?_)
  · have hJ := hJ.1 c
    refine zq_iconst (v := 0) d_Model_end_14 zk_i0 ?_
    refine zr_less (L' := [some (.ref 33), some (.int a1), some (.int a2), none, none]) ⟨rfl, ⟨rfl, ⟨rfl, trivial⟩⟩⟩ ?_
    exact s_Model_end_L15    hJ
  · have hJ := hJ.2 c
    refine zq_aload_n d_Model_end_5 rfl rfl ?_
    refine zm_getI fg_Model_365 d_Model_end_6 zs_Model rfl ?_
    refine zq_iconst (v := 1) d_Model_end_9 zk_i1 ?_
    refine zq_iadd d_Model_end_10 ?_
    refine zq_goto (tgt := 15) d_Model_end_11 (by decide) ?_
    refine zr_less (L' := [some (.ref 33), some (.int a1), some (.int a2), none, none]) ⟨rfl, ⟨rfl, ⟨rfl, trivial⟩⟩⟩ ?_
    exact s_Model_end_L15    hJ
set_option maxHeartbeats 400000 in
theorem s_Model_add {g : zk_T} {a1 : Int32} {a2 : Int32} {K : zm → Prop} {m : zm} (hJ : j_Model_add a1 a2 m K) : zq_Mt (zk_g g) y_Model_add 0 0 0 [.ref 33, .int a1, .int a2] (zm_hp m) (zm_QV K) := by
  unfold j_Model_add at hJ
  refine zq_meth (ini := false) rfl (fun h => by cases h) (Nat.le_of_ble_eq_true rfl) ?_
  refine zr_L (F := ("RiichiTableModel", prog_9_method_15_code, 3, none, false, zq_rm 0 0 0)) (L' := [some (.ref 33), some (.int a1), some (.int a2)]) rfl ?_
  refine zq_aload_n d_Model_add_0 rfl rfl ?_
  refine zm_getR fg_Model_72 d_Model_add_1 zs_Model rfl ?_
  refine zq_aload_n d_Model_add_4 rfl rfl ?_
  refine zm_getI fg_Model_140 d_Model_add_5 zs_Model rfl ?_
  refine zq_iload_n d_Model_add_8 rfl rfl ?_
  obtain ⟨hb, hJ⟩ := hJ
  refine zr_ast d_Model_add_9 (rfl : zm_sh[54]? = some (.inl (0, 8, .inl (fun _ => 0)))) hb (fun m1 hm1 => ?_)
  have hJ := hJ m1 hm1
  refine zq_aload_n d_Model_add_10 rfl rfl ?_
  refine zm_getR fg_Model_69 d_Model_add_11 zs_Model rfl ?_
  refine zq_aload_n d_Model_add_14 rfl rfl ?_
  refine zm_getI fg_Model_140 d_Model_add_15 zs_Model rfl ?_
  refine zq_iload_n d_Model_add_18 rfl rfl ?_
  obtain ⟨hb, hJ⟩ := hJ
  refine zr_ast d_Model_add_19 (rfl : zm_sh[53]? = some (.inl (0, 8, .inl (fun _ => 0)))) hb (fun m2 hm2 => ?_)
  have hJ := hJ m2 hm2
  refine zq_aload_n d_Model_add_20 rfl rfl ?_
  refine zm_getR fg_Model_75 d_Model_add_21 zs_Model rfl ?_
  refine zq_aload_n d_Model_add_24 rfl rfl ?_
  refine zm_getI fg_Model_140 d_Model_add_25 zs_Model rfl ?_
  refine zq_iconst (v := 0) d_Model_add_28 zk_i0 ?_
  obtain ⟨hb, hJ⟩ := hJ
  refine zr_zst d_Model_add_29 (rfl : zm_sh[55]? = some (.inl (2, 8, .inl (fun _ => 0)))) hb (Or.inl rfl) (fun m3 hm3 => ?_)
  have hJ := hJ m3 hm3
  refine zq_aload_n d_Model_add_30 rfl rfl ?_
  refine zq_dup d_Model_add_31 rfl ?_
  refine zm_getI fg_Model_140 d_Model_add_32 zs_Model rfl ?_
  refine zq_iconst (v := 1) d_Model_add_35 zk_i1 ?_
  refine zq_iadd d_Model_add_36 ?_
  refine zr_putI fl_Model_140 d_Model_add_37 zs_Model rfl rfl (fun m4 hm4 => ?_)
  have hJ := hJ m4 hm4
  exact zq_vret d_Model_add_40 rfl (Nat.le_refl _) (Nat.le_refl _) ⟨_, rfl, rfl, hJ⟩
set_option maxHeartbeats 400000 in
theorem s_Model_rank {g : zk_T} {a0 : Int32} {K : Int32 → zm → Prop} {m : zm} (hJ : j_Model_rank a0 m K) : zq_Mt (zk_g g) y_Model_rank 0 0 0 [.int a0] (zm_hp m) (zm_QI K) := by
  unfold j_Model_rank at hJ
  refine zq_meth (ini := false) rfl (fun h => by cases h) (Nat.le_of_ble_eq_true rfl) ?_
  refine zr_L (F := ("RiichiTableModel", prog_9_method_10_code, 1, (some .int), false, zq_rm 0 0 0)) (L' := [some (.int a0)]) rfl ?_
  refine zq_iload_n d_Model_rank_0 rfl rfl ?_
  refine zq_bipush (v := 9) d_Model_rank_1 zk_b9 ?_
  refine zq_irem d_Model_rank_3 (by decide) ?_
  refine zq_iconst (v := 1) d_Model_rank_4 zk_i1 ?_
  refine zq_iadd d_Model_rank_5 ?_
  exact zq_iret d_Model_rank_6 rfl rfl (Nat.le_refl _) (Nat.le_refl _) ⟨_, _, rfl, rfl, hJ⟩
set_option maxHeartbeats 400000 in
theorem s_Model_apart_L95 {g : zk_T} {a1 : Int32} {a2 : Int32} {R10 : Int32 → Int32 → zm → Prop} {K : Int32 → zm → Prop} (hR10 : ∀ {x3 : Int32} {x4 : Int32} {m : zm}, R10 x3 x4 m → zq_V (zk_g g) ("RiichiTableModel", prog_9_method_16_code, 7, (some .boolean), false, zq_rm 1 0 0) 0 0 10 [some (.ref 33), some (.int a1), some (.int a2), some (.int x3), some (.int x4), none, none] [] (zm_hp m) (zm_QI K)) {x3 : Int32} {x4 : Int32} {m : zm} (hJ : j_Model_apart_L95 a1 a2 R10 K x3 x4 m) : zq_V (zk_g g) ("RiichiTableModel", prog_9_method_16_code, 7, (some .boolean), false, zq_rm 1 0 0) 0 0 95 [some (.ref 33), some (.int a1), some (.int a2), some (.int x3), some (.int x4), none, none] [] (zm_hp m) (zm_QI K) := by
  unfold j_Model_apart_L95 at hJ
  refine zr_iinc (d' := 1) d_Model_apart_95 zk_i1 rfl (Nat.le_of_ble_eq_true rfl) (fun y6 hy6 => ?_)
  have hJ := hJ y6 hy6
  refine zr_L (L' := [some (.ref 33), some (.int a1), some (.int a2), some (.int x3), some (.int y6), none, none]) rfl ?_
  refine zq_goto (tgt := 10) d_Model_apart_98 (by decide) ?_
  refine zr_less (L' := [some (.ref 33), some (.int a1), some (.int a2), some (.int x3), some (.int y6), none, none]) ⟨rfl, ⟨rfl, ⟨rfl, ⟨rfl, ⟨rfl, trivial⟩⟩⟩⟩⟩ ?_
  exact hR10  hJ
set_option maxHeartbeats 400000 in
theorem s_Model_apart_L92 {g : zk_T} {a1 : Int32} {a2 : Int32} {R10 : Int32 → Int32 → zm → Prop} {K : Int32 → zm → Prop} (hR10 : ∀ {x3 : Int32} {x4 : Int32} {m : zm}, R10 x3 x4 m → zq_V (zk_g g) ("RiichiTableModel", prog_9_method_16_code, 7, (some .boolean), false, zq_rm 1 0 0) 0 0 10 [some (.ref 33), some (.int a1), some (.int a2), some (.int x3), some (.int x4), none, none] [] (zm_hp m) (zm_QI K)) {x3 : Int32} {x4 : Int32} {m : zm} (hJ : j_Model_apart_L92 a1 a2 R10 K x3 x4 m) : zq_V (zk_g g) ("RiichiTableModel", prog_9_method_16_code, 7, (some .boolean), false, zq_rm 1 0 0) 0 0 92 [some (.ref 33), some (.int a1), some (.int a2), some (.int x3), some (.int x4), none, none] [] (zm_hp m) (zm_QI K) := by
  unfold j_Model_apart_L92 at hJ
  refine zr_iinc (d' := 1) d_Model_apart_92 zk_i1 rfl (Nat.le_of_ble_eq_true rfl) (fun y5 hy5 => ?_)
  have hJ := hJ y5 hy5
  refine zr_L (L' := [some (.ref 33), some (.int a1), some (.int a2), some (.int y5), some (.int x4), none, none]) rfl ?_
  refine zr_less (L' := [some (.ref 33), some (.int a1), some (.int a2), some (.int y5), some (.int x4), none, none]) ⟨rfl, ⟨rfl, ⟨rfl, ⟨rfl, ⟨rfl, trivial⟩⟩⟩⟩⟩ ?_
  exact s_Model_apart_L95  hR10  hJ
set_option maxHeartbeats 400000 in
theorem s_Model_apart_L44 {g : zk_T} {a1 : Int32} {a2 : Int32} {R10 : Int32 → Int32 → zm → Prop} {K : Int32 → zm → Prop} (hR10 : ∀ {x3 : Int32} {x4 : Int32} {m : zm}, R10 x3 x4 m → zq_V (zk_g g) ("RiichiTableModel", prog_9_method_16_code, 7, (some .boolean), false, zq_rm 1 0 0) 0 0 10 [some (.ref 33), some (.int a1), some (.int a2), some (.int x3), some (.int x4), none, none] [] (zm_hp m) (zm_QI K)) {x3 : Int32} {x4 : Int32} {t0 : Int32} {t1 : Int32} {t2 : Int32} {m : zm} (hJ : j_Model_apart_L44 a1 a2 R10 K x3 x4 t0 t1 t2 m) : zq_V (zk_g g) ("RiichiTableModel", prog_9_method_16_code, 7, (some .boolean), false, zq_rm 1 0 0) 0 0 44 [some (.ref 33), some (.int a1), some (.int a2), some (.int x3), some (.int x4), none, none] [.int t0, .int t1, .int t2, .ref 52] (zm_hp m) (zm_QI K) := by
  unfold j_Model_apart_L44 at hJ
  refine zq_isub d_Model_apart_44 ?_
  obtain ⟨hb, hJ⟩ := hJ
  refine zr_ast d_Model_apart_45 (rfl : zm_sh[52]? = some (.inl (0, 34, .inl (fun _ => 0)))) hb (fun m2 hm2 => ?_)
  have hJ := hJ m2 hm2
  refine zq_aload_n d_Model_apart_46 rfl rfl ?_
  refine zm_getR fg_Model_66 d_Model_apart_47 zs_Model rfl ?_
  refine zq_iload d_Model_apart_50 rfl ?_
  obtain ⟨hb, hJ⟩ := hJ
  refine zm_ald d_Model_apart_52 (rfl : zm_sh[52]? = some (.inl (0, 34, .inl (fun _ => 0)))) hb ?_
  refine zq_iconst (v := 3) d_Model_apart_53 zk_i3 ?_
  refine zq_icmp_lt (tgt := 95) d_Model_apart_54 (by decide) (fun c => ?_) (fun c => ?_)
  · have hJ := hJ.1 c
    refine zr_less (L' := [some (.ref 33), some (.int a1), some (.int a2), some (.int x3), some (.int x4), none, none]) ⟨rfl, ⟨rfl, ⟨rfl, ⟨rfl, ⟨rfl, trivial⟩⟩⟩⟩⟩ ?_
    exact s_Model_apart_L95  hR10  hJ
  · have hJ := hJ.2 c
    refine zq_iload_n d_Model_apart_57 rfl rfl ?_
    refine zq_iload_n d_Model_apart_58 rfl rfl ?_
    refine zq_ishr d_Model_apart_59 ?_
    refine zq_iconst (v := 1) d_Model_apart_60 zk_i1 ?_
    refine zq_iand d_Model_apart_61 ?_
    refine zq_iconst (v := 1) d_Model_apart_62 zk_i1 ?_
    refine zq_icmp_ne (tgt := 92) d_Model_apart_63 (by decide) (fun c => ?_) (fun c => ?_)
    · have hJ := hJ.1 c
      refine zr_less (L' := [some (.ref 33), some (.int a1), some (.int a2), some (.int x3), some (.int x4), none, none]) ⟨rfl, ⟨rfl, ⟨rfl, ⟨rfl, ⟨rfl, trivial⟩⟩⟩⟩⟩ ?_
      exact s_Model_apart_L92  hR10  hJ
    · have hJ := hJ.2 c
      refine zq_aload_n d_Model_apart_66 rfl rfl ?_
      refine zm_getI fg_Model_140 d_Model_apart_67 zs_Model rfl ?_
      refine zq_iconst (v := 4) d_Model_apart_70 zk_i4 ?_
      refine zq_icmp_ge (tgt := 92) d_Model_apart_71 (by decide) (fun c => ?_) (fun c => ?_)
      · have hJ := hJ.1 c
        refine zr_less (L' := [some (.ref 33), some (.int a1), some (.int a2), some (.int x3), some (.int x4), none, none]) ⟨rfl, ⟨rfl, ⟨rfl, ⟨rfl, ⟨rfl, trivial⟩⟩⟩⟩⟩ ?_
        exact s_Model_apart_L92  hR10  hJ
      · have hJ := hJ.2 c
        refine zq_aload_n d_Model_apart_74 rfl rfl ?_
        refine zm_getR fg_Model_66 d_Model_apart_75 zs_Model rfl ?_
        refine zq_iload d_Model_apart_78 rfl ?_
        refine zq_dup2 d_Model_apart_80 rfl rfl ?_
        obtain ⟨hb, hJ⟩ := hJ
        refine zm_ald d_Model_apart_81 (rfl : zm_sh[52]? = some (.inl (0, 34, .inl (fun _ => 0)))) hb ?_
        refine zq_iconst (v := 3) d_Model_apart_82 zk_i3 ?_
        refine zq_isub d_Model_apart_83 ?_
        obtain ⟨hb, hJ⟩ := hJ
        refine zr_ast d_Model_apart_84 (rfl : zm_sh[52]? = some (.inl (0, 34, .inl (fun _ => 0)))) hb (fun m3 hm3 => ?_)
        have hJ := hJ m3 hm3
        refine zq_aload_n d_Model_apart_85 rfl rfl ?_
        refine zq_iconst (v := 1) d_Model_apart_86 zk_i1 ?_
        refine zq_iload d_Model_apart_87 rfl ?_
        refine zr_cvV (q := 33) (as := [.int 1, .int x4]) (st := []) d_Model_apart_89 cc_Model_143 cv_Model_add zs_Model (s_Model_add  hJ) rfl ⟨Nat.le_of_ble_eq_true rfl, Nat.le_of_ble_eq_true rfl⟩ (Nat.le_of_ble_eq_true rfl) ⟨Nat.le_refl _, Nat.le_refl _⟩ rfl (fun m4 hJ => ?_)
        refine zr_less (L' := [some (.ref 33), some (.int a1), some (.int a2), some (.int x3), some (.int x4), none, none]) ⟨rfl, ⟨rfl, ⟨rfl, ⟨rfl, ⟨rfl, trivial⟩⟩⟩⟩⟩ ?_
        exact s_Model_apart_L92  hR10  hJ
set_option maxHeartbeats 400000 in
theorem s_Model_apart_L186 {g : zk_T} {a1 : Int32} {a2 : Int32} {K : Int32 → zm → Prop} {m : zm} (hJ : j_Model_apart_L186 a1 a2  K  m) : zq_V (zk_g g) ("RiichiTableModel", prog_9_method_16_code, 7, (some .boolean), false, zq_rm 1 0 0) 0 0 186 [some (.ref 33), some (.int a1), some (.int a2), none, none, none, none] [] (zm_hp m) (zm_QI K) := by
  unfold j_Model_apart_L186 at hJ
  refine zq_iconst (v := 0) d_Model_apart_186 zk_i0 ?_
  exact zq_iret d_Model_apart_187 rfl (zm_isB.nar (Or.inl rfl)) (Nat.le_refl _) (Nat.le_refl _) ⟨_, _, rfl, rfl, hJ⟩
set_option maxHeartbeats 400000 in
theorem s_Model_apart_L144 {g : zk_T} {a1 : Int32} {a2 : Int32} {R104 : Int32 → zm → Prop} {K : Int32 → zm → Prop} (hR104 : ∀ {x4 : Int32} {m : zm}, R104 x4 m → zq_V (zk_g g) ("RiichiTableModel", prog_9_method_16_code, 7, (some .boolean), false, zq_rm 1 0 0) 0 0 104 [some (.ref 33), some (.int a1), some (.int a2), none, some (.int x4), none, none] [] (zm_hp m) (zm_QI K)) : ∀ (n : Nat) {x4 : Int32} {x5 : Int32} {x6 : Int32} {m : zm}, j_Model_apart_L144 a1 a2 R104 K n x4 x5 x6 m → zq_V (zk_g g) ("RiichiTableModel", prog_9_method_16_code, 7, (some .boolean), false, zq_rm 1 0 0) 0 0 144 [some (.ref 33), some (.int a1), some (.int a2), none, some (.int x4), some (.int x5), some (.int x6)] [] (zm_hp m) (zm_QI K) := by
  intro n
  induction n with
  | zero =>
    intro x4 x5 x6 m hJ
    exact False.elim hJ
  | succ n ih =>
    intro x4 x5 x6 m hJ
    rw [j_Model_apart_L144] at hJ
    refine zq_iload d_Model_apart_144 rfl ?_
    refine zq_if_le (tgt := 238) d_Model_apart_146 (by decide) (fun c => ?_) (fun c => ?_)
    · have hJ := hJ.1 c
      refine zr_iinc (d' := 1) d_Model_apart_238 zk_i1 rfl (Nat.le_of_ble_eq_true rfl) (fun y11 hy11 => ?_)
      have hJ := hJ y11 hy11
      refine zr_L (L' := [some (.ref 33), some (.int a1), some (.int a2), none, some (.int y11), some (.int x5), some (.int x6)]) rfl ?_
      refine zq_goto (tgt := 104) d_Model_apart_241 (by decide) ?_
      refine zr_less (L' := [some (.ref 33), some (.int a1), some (.int a2), none, some (.int y11), none, none]) ⟨rfl, ⟨rfl, ⟨rfl, ⟨rfl, trivial⟩⟩⟩⟩ ?_
      exact hR104  hJ
    · have hJ := hJ.2 c
      refine zq_iload d_Model_apart_149 rfl ?_
      refine zq_if_eq (tgt := 186) d_Model_apart_151 (by decide) (fun c => ?_) (fun c => ?_)
      · have hJ := hJ.1 c
        refine zr_less (L' := [some (.ref 33), some (.int a1), some (.int a2), none, none, none, none]) ⟨rfl, ⟨rfl, ⟨rfl, trivial⟩⟩⟩ ?_
        exact s_Model_apart_L186    hJ
      · have hJ := hJ.2 c
        refine zq_aload_n d_Model_apart_154 rfl rfl ?_
        refine zm_getI fg_Model_140 d_Model_apart_155 zs_Model rfl ?_
        refine zq_iconst (v := 4) d_Model_apart_158 zk_i4 ?_
        refine zq_icmp_ge (tgt := 186) d_Model_apart_159 (by decide) (fun c => ?_) (fun c => ?_)
        · have hJ := hJ.1 c
          refine zr_less (L' := [some (.ref 33), some (.int a1), some (.int a2), none, none, none, none]) ⟨rfl, ⟨rfl, ⟨rfl, trivial⟩⟩⟩ ?_
          exact s_Model_apart_L186    hJ
        · have hJ := hJ.2 c
          refine zq_aload_n d_Model_apart_162 rfl rfl ?_
          refine zm_getR fg_Model_66 d_Model_apart_163 zs_Model rfl ?_
          refine zq_iload d_Model_apart_166 rfl ?_
          refine zq_iconst (v := 1) d_Model_apart_168 zk_i1 ?_
          refine zq_iadd d_Model_apart_169 ?_
          obtain ⟨hb, hJ⟩ := hJ
          refine zm_ald d_Model_apart_170 (rfl : zm_sh[52]? = some (.inl (0, 34, .inl (fun _ => 0)))) hb ?_
          refine zq_if_eq (tgt := 186) d_Model_apart_171 (by decide) (fun c => ?_) (fun c => ?_)
          · have hJ := hJ.1 c
            refine zr_less (L' := [some (.ref 33), some (.int a1), some (.int a2), none, none, none, none]) ⟨rfl, ⟨rfl, ⟨rfl, trivial⟩⟩⟩ ?_
            exact s_Model_apart_L186    hJ
          · have hJ := hJ.2 c
            refine zq_aload_n d_Model_apart_174 rfl rfl ?_
            refine zm_getR fg_Model_66 d_Model_apart_175 zs_Model rfl ?_
            refine zq_iload d_Model_apart_178 rfl ?_
            refine zq_iconst (v := 2) d_Model_apart_180 zk_i2 ?_
            refine zq_iadd d_Model_apart_181 ?_
            obtain ⟨hb, hJ⟩ := hJ
            refine zm_ald d_Model_apart_182 (rfl : zm_sh[52]? = some (.inl (0, 34, .inl (fun _ => 0)))) hb ?_
            refine zq_if_ne (tgt := 188) d_Model_apart_183 (by decide) (fun c => ?_) (fun c => ?_)
            · have hJ := hJ.1 c
              refine zq_aload_n d_Model_apart_188 rfl rfl ?_
              refine zm_getR fg_Model_66 d_Model_apart_189 zs_Model rfl ?_
              refine zq_iload d_Model_apart_192 rfl ?_
              refine zq_dup2 d_Model_apart_194 rfl rfl ?_
              obtain ⟨hb, hJ⟩ := hJ
              refine zm_ald d_Model_apart_195 (rfl : zm_sh[52]? = some (.inl (0, 34, .inl (fun _ => 0)))) hb ?_
              refine zq_iconst (v := 1) d_Model_apart_196 zk_i1 ?_
              refine zq_isub d_Model_apart_197 ?_
              obtain ⟨hb, hJ⟩ := hJ
              refine zr_ast d_Model_apart_198 (rfl : zm_sh[52]? = some (.inl (0, 34, .inl (fun _ => 0)))) hb (fun m12 hm12 => ?_)
              have hJ := hJ m12 hm12
              refine zq_aload_n d_Model_apart_199 rfl rfl ?_
              refine zm_getR fg_Model_66 d_Model_apart_200 zs_Model rfl ?_
              refine zq_iload d_Model_apart_203 rfl ?_
              refine zq_iconst (v := 1) d_Model_apart_205 zk_i1 ?_
              refine zq_iadd d_Model_apart_206 ?_
              refine zq_dup2 d_Model_apart_207 rfl rfl ?_
              obtain ⟨hb, hJ⟩ := hJ
              refine zm_ald d_Model_apart_208 (rfl : zm_sh[52]? = some (.inl (0, 34, .inl (fun _ => 0)))) hb ?_
              refine zq_iconst (v := 1) d_Model_apart_209 zk_i1 ?_
              refine zq_isub d_Model_apart_210 ?_
              obtain ⟨hb, hJ⟩ := hJ
              refine zr_ast d_Model_apart_211 (rfl : zm_sh[52]? = some (.inl (0, 34, .inl (fun _ => 0)))) hb (fun m13 hm13 => ?_)
              have hJ := hJ m13 hm13
              refine zq_aload_n d_Model_apart_212 rfl rfl ?_
              refine zm_getR fg_Model_66 d_Model_apart_213 zs_Model rfl ?_
              refine zq_iload d_Model_apart_216 rfl ?_
              refine zq_iconst (v := 2) d_Model_apart_218 zk_i2 ?_
              refine zq_iadd d_Model_apart_219 ?_
              refine zq_dup2 d_Model_apart_220 rfl rfl ?_
              obtain ⟨hb, hJ⟩ := hJ
              refine zm_ald d_Model_apart_221 (rfl : zm_sh[52]? = some (.inl (0, 34, .inl (fun _ => 0)))) hb ?_
              refine zq_iconst (v := 1) d_Model_apart_222 zk_i1 ?_
              refine zq_isub d_Model_apart_223 ?_
              obtain ⟨hb, hJ⟩ := hJ
              refine zr_ast d_Model_apart_224 (rfl : zm_sh[52]? = some (.inl (0, 34, .inl (fun _ => 0)))) hb (fun m14 hm14 => ?_)
              have hJ := hJ m14 hm14
              refine zq_aload_n d_Model_apart_225 rfl rfl ?_
              refine zq_iconst (v := 0) d_Model_apart_226 zk_i0 ?_
              refine zq_iload d_Model_apart_227 rfl ?_
              refine zr_cvV (q := 33) (as := [.int 0, .int x4]) (st := []) d_Model_apart_229 cc_Model_143 cv_Model_add zs_Model (s_Model_add  hJ) rfl ⟨Nat.le_of_ble_eq_true rfl, Nat.le_of_ble_eq_true rfl⟩ (Nat.le_of_ble_eq_true rfl) ⟨Nat.le_refl _, Nat.le_refl _⟩ rfl (fun m15 hJ => ?_)
              refine zr_iinc (d' := (-1)) d_Model_apart_232 zk_im1 rfl (Nat.le_of_ble_eq_true rfl) (fun y16 hy16 => ?_)
              have hJ := hJ y16 hy16
              refine zr_L (L' := [some (.ref 33), some (.int a1), some (.int a2), none, some (.int x4), some (.int x5), some (.int y16)]) rfl ?_
              refine zq_goto (tgt := 144) d_Model_apart_235 (by decide) ?_
              refine zr_less (L' := [some (.ref 33), some (.int a1), some (.int a2), none, some (.int x4), some (.int x5), some (.int y16)]) ⟨rfl, ⟨rfl, ⟨rfl, ⟨rfl, ⟨rfl, ⟨rfl, trivial⟩⟩⟩⟩⟩⟩ ?_
              exact ih  hJ
            · have hJ := hJ.2 c
              refine zr_less (L' := [some (.ref 33), some (.int a1), some (.int a2), none, none, none, none]) ⟨rfl, ⟨rfl, ⟨rfl, trivial⟩⟩⟩ ?_
              exact s_Model_apart_L186    hJ
set_option maxHeartbeats 400000 in
theorem s_Model_apart_L133 {g : zk_T} {a1 : Int32} {a2 : Int32} {R104 : Int32 → zm → Prop} {K : Int32 → zm → Prop} (hR104 : ∀ {x4 : Int32} {m : zm}, R104 x4 m → zq_V (zk_g g) ("RiichiTableModel", prog_9_method_16_code, 7, (some .boolean), false, zq_rm 1 0 0) 0 0 104 [some (.ref 33), some (.int a1), some (.int a2), none, some (.int x4), none, none] [] (zm_hp m) (zm_QI K)) {x4 : Int32} {t0 : Int32} {m : zm} (hJ : j_Model_apart_L133 a1 a2 R104 K x4 t0 m) : zq_V (zk_g g) ("RiichiTableModel", prog_9_method_16_code, 7, (some .boolean), false, zq_rm 1 0 0) 0 0 133 [some (.ref 33), some (.int a1), some (.int a2), none, some (.int x4), none, none] [.int t0] (zm_hp m) (zm_QI K) := by
  unfold j_Model_apart_L133 at hJ
  refine zr_istore (L' := [some (.ref 33), some (.int a1), some (.int a2), none, some (.int x4), some (.int t0), none]) d_Model_apart_133 (Nat.le_of_ble_eq_true rfl) rfl ?_
  refine zq_aload_n d_Model_apart_135 rfl rfl ?_
  refine zm_getR fg_Model_66 d_Model_apart_136 zs_Model rfl ?_
  refine zq_iload d_Model_apart_139 rfl ?_
  obtain ⟨hb, hJ⟩ := hJ
  refine zm_ald d_Model_apart_141 (rfl : zm_sh[52]? = some (.inl (0, 34, .inl (fun _ => 0)))) hb ?_
  refine zr_topi (fun y10 hy10 => ?_)
  have hJ := hJ y10 hy10
  refine zr_istore (L' := [some (.ref 33), some (.int a1), some (.int a2), none, some (.int x4), some (.int t0), some (.int y10)]) d_Model_apart_142 (Nat.le_of_ble_eq_true rfl) rfl ?_
  refine zr_less (L' := [some (.ref 33), some (.int a1), some (.int a2), none, some (.int x4), some (.int t0), some (.int y10)]) ⟨rfl, ⟨rfl, ⟨rfl, ⟨rfl, ⟨rfl, ⟨rfl, trivial⟩⟩⟩⟩⟩⟩ ?_
  obtain ⟨n144, hJ⟩ := hJ
  exact s_Model_apart_L144  hR104 n144  hJ
set_option maxHeartbeats 400000 in
theorem s_Model_apart_L132 {g : zk_T} {a1 : Int32} {a2 : Int32} {R104 : Int32 → zm → Prop} {K : Int32 → zm → Prop} (hR104 : ∀ {x4 : Int32} {m : zm}, R104 x4 m → zq_V (zk_g g) ("RiichiTableModel", prog_9_method_16_code, 7, (some .boolean), false, zq_rm 1 0 0) 0 0 104 [some (.ref 33), some (.int a1), some (.int a2), none, some (.int x4), none, none] [] (zm_hp m) (zm_QI K)) {x4 : Int32} {m : zm} (hJ : j_Model_apart_L132 a1 a2 R104 K x4 m) : zq_V (zk_g g) ("RiichiTableModel", prog_9_method_16_code, 7, (some .boolean), false, zq_rm 1 0 0) 0 0 132 [some (.ref 33), some (.int a1), some (.int a2), none, some (.int x4), none, none] [] (zm_hp m) (zm_QI K) := by
  unfold j_Model_apart_L132 at hJ
  refine zq_iconst (v := 0) d_Model_apart_132 zk_i0 ?_
  refine zr_less (L' := [some (.ref 33), some (.int a1), some (.int a2), none, some (.int x4), none, none]) ⟨rfl, ⟨rfl, ⟨rfl, ⟨rfl, trivial⟩⟩⟩⟩ ?_
  exact s_Model_apart_L133  hR104  hJ
set_option maxHeartbeats 400000 in
theorem s_Model_apart_L265 {g : zk_T} {a1 : Int32} {a2 : Int32} {K : Int32 → zm → Prop} {t0 : Int32} {m : zm} (hJ : j_Model_apart_L265 a1 a2  K t0 m) : zq_V (zk_g g) ("RiichiTableModel", prog_9_method_16_code, 7, (some .boolean), false, zq_rm 1 0 0) 0 0 265 [some (.ref 33), some (.int a1), some (.int a2), none, none, none, none] [.int t0] (zm_hp m) (zm_QI K) := by
  unfold j_Model_apart_L265 at hJ
  exact zq_iret d_Model_apart_265 rfl hJ.1.nar (Nat.le_refl _) (Nat.le_refl _) ⟨_, _, rfl, rfl, hJ.2⟩
set_option maxHeartbeats 400000 in
theorem s_Model_apart_L104 {g : zk_T} {a1 : Int32} {a2 : Int32} {K : Int32 → zm → Prop} : ∀ (n : Nat) {x4 : Int32} {m : zm}, j_Model_apart_L104 a1 a2  K n x4 m → zq_V (zk_g g) ("RiichiTableModel", prog_9_method_16_code, 7, (some .boolean), false, zq_rm 1 0 0) 0 0 104 [some (.ref 33), some (.int a1), some (.int a2), none, some (.int x4), none, none] [] (zm_hp m) (zm_QI K) := by
  intro n
  induction n with
  | zero =>
    intro x4 m hJ
    exact False.elim hJ
  | succ n ih =>
    intro x4 m hJ
    rw [j_Model_apart_L104] at hJ
    refine zq_iload d_Model_apart_104 rfl ?_
    refine zq_bipush (v := 34) d_Model_apart_106 zk_b34 ?_
    refine zq_icmp_ge (tgt := 244) d_Model_apart_108 (by decide) (fun c => ?_) (fun c => ?_)
    · have hJ := hJ.1 c
      refine zq_aload_n d_Model_apart_244 rfl rfl ?_
      refine zq_aload_n d_Model_apart_245 rfl rfl ?_
      refine zm_getI fg_Model_140 d_Model_apart_246 zs_Model rfl ?_
      refine zr_putI fl_Model_150 d_Model_apart_249 zs_Model rfl rfl (fun m7 hm7 => ?_)
      have hJ := hJ m7 hm7
      refine zq_aload_n d_Model_apart_252 rfl rfl ?_
      refine zm_getI fg_Model_140 d_Model_apart_253 zs_Model rfl ?_
      refine zq_iload_n d_Model_apart_256 rfl rfl ?_
      refine zq_icmp_ne (tgt := 264) d_Model_apart_257 (by decide) (fun c => ?_) (fun c => ?_)
      · have hJ := hJ.1 c
        refine zq_iconst (v := 0) d_Model_apart_264 zk_i0 ?_
        refine zr_less (L' := [some (.ref 33), some (.int a1), some (.int a2), none, none, none, none]) ⟨rfl, ⟨rfl, ⟨rfl, trivial⟩⟩⟩ ?_
        exact s_Model_apart_L265    hJ
      · have hJ := hJ.2 c
        refine zq_iconst (v := 1) d_Model_apart_260 zk_i1 ?_
        refine zq_goto (tgt := 265) d_Model_apart_261 (by decide) ?_
        refine zr_less (L' := [some (.ref 33), some (.int a1), some (.int a2), none, none, none, none]) ⟨rfl, ⟨rfl, ⟨rfl, trivial⟩⟩⟩ ?_
        exact s_Model_apart_L265    hJ
    · have hJ := hJ.2 c
      refine zq_iload d_Model_apart_111 rfl ?_
      refine zq_bipush (v := 27) d_Model_apart_113 zk_b27 ?_
      refine zq_icmp_ge (tgt := 132) d_Model_apart_115 (by decide) (fun c => ?_) (fun c => ?_)
      · have hJ := hJ.1 c
        refine zr_less (L' := [some (.ref 33), some (.int a1), some (.int a2), none, some (.int x4), none, none]) ⟨rfl, ⟨rfl, ⟨rfl, ⟨rfl, trivial⟩⟩⟩⟩ ?_
        exact s_Model_apart_L132  ih  hJ
      · have hJ := hJ.2 c
        refine zq_iload d_Model_apart_118 rfl ?_
        refine zr_csI (as := [.int x4]) (st := []) d_Model_apart_120 cc_Model_147 cs_Model_rank (s_Model_rank  hJ) rfl ⟨Nat.le_of_ble_eq_true rfl, Nat.le_of_ble_eq_true rfl⟩ (Nat.le_of_ble_eq_true rfl) ⟨Nat.le_refl _, Nat.le_refl _⟩ rfl (fun r9 m8 hJ => ?_)
        refine zq_bipush (v := 8) d_Model_apart_123 zk_b8 ?_
        refine zq_icmp_ge (tgt := 132) d_Model_apart_125 (by decide) (fun c => ?_) (fun c => ?_)
        · have hJ := hJ.1 c
          refine zr_less (L' := [some (.ref 33), some (.int a1), some (.int a2), none, some (.int x4), none, none]) ⟨rfl, ⟨rfl, ⟨rfl, ⟨rfl, trivial⟩⟩⟩⟩ ?_
          exact s_Model_apart_L132  ih  hJ
        · have hJ := hJ.2 c
          refine zq_iconst (v := 1) d_Model_apart_128 zk_i1 ?_
          refine zq_goto (tgt := 133) d_Model_apart_129 (by decide) ?_
          refine zr_less (L' := [some (.ref 33), some (.int a1), some (.int a2), none, some (.int x4), none, none]) ⟨rfl, ⟨rfl, ⟨rfl, ⟨rfl, trivial⟩⟩⟩⟩ ?_
          exact s_Model_apart_L133  ih  hJ
set_option maxHeartbeats 400000 in
theorem s_Model_apart_L10 {g : zk_T} {a1 : Int32} {a2 : Int32} {K : Int32 → zm → Prop} : ∀ (n : Nat) {x3 : Int32} {x4 : Int32} {m : zm}, j_Model_apart_L10 a1 a2  K n x3 x4 m → zq_V (zk_g g) ("RiichiTableModel", prog_9_method_16_code, 7, (some .boolean), false, zq_rm 1 0 0) 0 0 10 [some (.ref 33), some (.int a1), some (.int a2), some (.int x3), some (.int x4), none, none] [] (zm_hp m) (zm_QI K) := by
  intro n
  induction n with
  | zero =>
    intro x3 x4 m hJ
    exact False.elim hJ
  | succ n ih =>
    intro x3 x4 m hJ
    rw [j_Model_apart_L10] at hJ
    refine zq_iload d_Model_apart_10 rfl ?_
    refine zq_bipush (v := 34) d_Model_apart_12 zk_b34 ?_
    refine zq_icmp_ge (tgt := 101) d_Model_apart_14 (by decide) (fun c => ?_) (fun c => ?_)
    · have hJ := hJ.1 c
      refine zq_iconst (v := 0) d_Model_apart_101 zk_i0 ?_
      refine zr_istore (L' := [some (.ref 33), some (.int a1), some (.int a2), some (.int x3), some (.int 0), none, none]) d_Model_apart_102 (Nat.le_of_ble_eq_true rfl) rfl ?_
      refine zr_less (L' := [some (.ref 33), some (.int a1), some (.int a2), none, some (.int 0), none, none]) ⟨rfl, ⟨rfl, ⟨rfl, ⟨rfl, trivial⟩⟩⟩⟩ ?_
      obtain ⟨n104, hJ⟩ := hJ
      exact s_Model_apart_L104   n104  hJ
    · have hJ := hJ.2 c
      refine zq_aload_n d_Model_apart_17 rfl rfl ?_
      refine zm_getR fg_Model_66 d_Model_apart_18 zs_Model rfl ?_
      refine zq_iload d_Model_apart_21 rfl ?_
      refine zq_aload_n d_Model_apart_23 rfl rfl ?_
      refine zm_getR fg_Model_60 d_Model_apart_24 zs_Model rfl ?_
      refine zq_iload d_Model_apart_27 rfl ?_
      obtain ⟨hb, hJ⟩ := hJ
      refine zm_ald d_Model_apart_29 (rfl : zm_sh[50]? = some (.inl (0, 34, .inl (fun _ => 0)))) hb ?_
      refine zq_iload d_Model_apart_30 rfl ?_
      refine zq_aload_n d_Model_apart_32 rfl rfl ?_
      refine zm_getI fg_Model_137 d_Model_apart_33 zs_Model rfl ?_
      refine zq_icmp_ne (tgt := 43) d_Model_apart_36 (by decide) (fun c => ?_) (fun c => ?_)
      · have hJ := hJ.1 c
        refine zq_iconst (v := 0) d_Model_apart_43 zk_i0 ?_
        refine zr_less (L' := [some (.ref 33), some (.int a1), some (.int a2), some (.int x3), some (.int x4), none, none]) ⟨rfl, ⟨rfl, ⟨rfl, ⟨rfl, ⟨rfl, trivial⟩⟩⟩⟩⟩ ?_
        exact s_Model_apart_L44  ih  hJ
      · have hJ := hJ.2 c
        refine zq_iconst (v := 2) d_Model_apart_39 zk_i2 ?_
        refine zq_goto (tgt := 44) d_Model_apart_40 (by decide) ?_
        refine zr_less (L' := [some (.ref 33), some (.int a1), some (.int a2), some (.int x3), some (.int x4), none, none]) ⟨rfl, ⟨rfl, ⟨rfl, ⟨rfl, ⟨rfl, trivial⟩⟩⟩⟩⟩ ?_
        exact s_Model_apart_L44  ih  hJ
set_option maxHeartbeats 400000 in
theorem s_Model_apart {g : zk_T} {a1 : Int32} {a2 : Int32} {K : Int32 → zm → Prop} {m : zm} (hJ : j_Model_apart a1 a2 m K) : zq_Mt (zk_g g) y_Model_apart 1 0 0 [.ref 33, .int a1, .int a2] (zm_hp m) (zm_QI K) := by
  unfold j_Model_apart at hJ
  refine zq_meth (ini := false) rfl (fun h => by cases h) (Nat.le_of_ble_eq_true rfl) ?_
  refine zr_L (F := ("RiichiTableModel", prog_9_method_16_code, 7, (some .boolean), false, zq_rm 1 0 0)) (L' := [some (.ref 33), some (.int a1), some (.int a2), none, none, none, none]) rfl ?_
  refine zq_aload_n d_Model_apart_0 rfl rfl ?_
  refine zq_iconst (v := 0) d_Model_apart_1 zk_i0 ?_
  refine zr_putI fl_Model_140 d_Model_apart_2 zs_Model rfl rfl (fun m1 hm1 => ?_)
  have hJ := hJ m1 hm1
  refine zq_iconst (v := 0) d_Model_apart_5 zk_i0 ?_
  refine zr_istore_n (L' := [some (.ref 33), some (.int a1), some (.int a2), some (.int 0), none, none, none]) d_Model_apart_6 rfl (Nat.le_of_ble_eq_true rfl) rfl ?_
  refine zq_iconst (v := 0) d_Model_apart_7 zk_i0 ?_
  refine zr_istore (L' := [some (.ref 33), some (.int a1), some (.int a2), some (.int 0), some (.int 0), none, none]) d_Model_apart_8 (Nat.le_of_ble_eq_true rfl) rfl ?_
  refine zr_less (L' := [some (.ref 33), some (.int a1), some (.int a2), some (.int 0), some (.int 0), none, none]) ⟨rfl, ⟨rfl, ⟨rfl, ⟨rfl, ⟨rfl, trivial⟩⟩⟩⟩⟩ ?_
  obtain ⟨n10, hJ⟩ := hJ
  exact s_Model_apart_L10   n10  hJ
set_option maxHeartbeats 400000 in
theorem s_Model_outer_L27 {g : zk_T} {a0 : Int32} {K : Int32 → zm → Prop} {t0 : Int32} {m : zm} (hJ : j_Model_outer_L27 a0  K t0 m) : zq_V (zk_g g) ("RiichiTableModel", prog_9_method_9_code, 1, (some .boolean), false, zq_rm 0 0 0) 0 0 27 [some (.int a0)] [.int t0] (zm_hp m) (zm_QI K) := by
  unfold j_Model_outer_L27 at hJ
  exact zq_iret d_Model_outer_27 rfl hJ.1.nar (Nat.le_refl _) (Nat.le_refl _) ⟨_, _, rfl, rfl, hJ.2⟩
set_option maxHeartbeats 400000 in
theorem s_Model_outer_L22 {g : zk_T} {a0 : Int32} {K : Int32 → zm → Prop} {m : zm} (hJ : j_Model_outer_L22 a0  K  m) : zq_V (zk_g g) ("RiichiTableModel", prog_9_method_9_code, 1, (some .boolean), false, zq_rm 0 0 0) 0 0 22 [some (.int a0)] [] (zm_hp m) (zm_QI K) := by
  unfold j_Model_outer_L22 at hJ
  refine zq_iconst (v := 1) d_Model_outer_22 zk_i1 ?_
  refine zq_goto (tgt := 27) d_Model_outer_23 (by decide) ?_
  refine zr_less (L' := [some (.int a0)]) ⟨rfl, trivial⟩ ?_
  exact s_Model_outer_L27    hJ
set_option maxHeartbeats 400000 in
theorem s_Model_outer {g : zk_T} {a0 : Int32} {K : Int32 → zm → Prop} {m : zm} (hJ : j_Model_outer a0 m K) : zq_Mt (zk_g g) y_Model_outer 0 0 0 [.int a0] (zm_hp m) (zm_QI K) := by
  unfold j_Model_outer at hJ
  refine zq_meth (ini := false) rfl (fun h => by cases h) (Nat.le_of_ble_eq_true rfl) ?_
  refine zr_L (F := ("RiichiTableModel", prog_9_method_9_code, 1, (some .boolean), false, zq_rm 0 0 0)) (L' := [some (.int a0)]) rfl ?_
  refine zq_iload_n d_Model_outer_0 rfl rfl ?_
  refine zq_bipush (v := 27) d_Model_outer_1 zk_b27 ?_
  refine zq_icmp_ge (tgt := 22) d_Model_outer_3 (by decide) (fun c => ?_) (fun c => ?_)
  · have hJ := hJ.1 c
    refine zr_less (L' := [some (.int a0)]) ⟨rfl, trivial⟩ ?_
    exact s_Model_outer_L22    hJ
  · have hJ := hJ.2 c
    refine zq_iload_n d_Model_outer_6 rfl rfl ?_
    refine zq_bipush (v := 9) d_Model_outer_7 zk_b9 ?_
    refine zq_irem d_Model_outer_9 (by decide) ?_
    refine zq_if_eq (tgt := 22) d_Model_outer_10 (by decide) (fun c => ?_) (fun c => ?_)
    · have hJ := hJ.1 c
      refine zr_less (L' := [some (.int a0)]) ⟨rfl, trivial⟩ ?_
      exact s_Model_outer_L22    hJ
    · have hJ := hJ.2 c
      refine zq_iload_n d_Model_outer_13 rfl rfl ?_
      refine zq_bipush (v := 9) d_Model_outer_14 zk_b9 ?_
      refine zq_irem d_Model_outer_16 (by decide) ?_
      refine zq_bipush (v := 8) d_Model_outer_17 zk_b8 ?_
      refine zq_icmp_ne (tgt := 26) d_Model_outer_19 (by decide) (fun c => ?_) (fun c => ?_)
      · have hJ := hJ.1 c
        refine zq_iconst (v := 0) d_Model_outer_26 zk_i0 ?_
        refine zr_less (L' := [some (.int a0)]) ⟨rfl, trivial⟩ ?_
        exact s_Model_outer_L27    hJ
      · have hJ := hJ.2 c
        refine zr_less (L' := [some (.int a0)]) ⟨rfl, trivial⟩ ?_
        exact s_Model_outer_L22    hJ
set_option maxHeartbeats 400000 in
theorem s_Model_isOrphans_L40 {g : zk_T} {R4 : Int32 → Int32 → zm → Prop} {K : Int32 → zm → Prop} (hR4 : ∀ {x1 : Int32} {x2 : Int32} {m : zm}, R4 x1 x2 m → zq_V (zk_g g) ("RiichiTableModel", prog_9_method_13_code, 3, (some .boolean), false, zq_rm 1 0 0) 0 0 4 [some (.ref 33), some (.int x1), some (.int x2)] [] (zm_hp m) (zm_QI K)) {x2 : Int32} {t0 : Int32} {m : zm} (hJ : j_Model_isOrphans_L40  R4 K x2 t0 m) : zq_V (zk_g g) ("RiichiTableModel", prog_9_method_13_code, 3, (some .boolean), false, zq_rm 1 0 0) 0 0 40 [some (.ref 33), none, some (.int x2)] [.int t0] (zm_hp m) (zm_QI K) := by
  unfold j_Model_isOrphans_L40 at hJ
  refine zr_istore_n (L' := [some (.ref 33), some (.int t0), some (.int x2)]) d_Model_isOrphans_40 rfl (Nat.le_of_ble_eq_true rfl) rfl ?_
  refine zr_iinc (d' := 1) d_Model_isOrphans_41 zk_i1 rfl (Nat.le_of_ble_eq_true rfl) (fun y3 hy3 => ?_)
  have hJ := hJ y3 hy3
  refine zr_L (L' := [some (.ref 33), some (.int t0), some (.int y3)]) rfl ?_
  refine zq_goto (tgt := 4) d_Model_isOrphans_44 (by decide) ?_
  refine zr_less (L' := [some (.ref 33), some (.int t0), some (.int y3)]) ⟨rfl, ⟨rfl, ⟨rfl, trivial⟩⟩⟩ ?_
  exact hR4  hJ
set_option maxHeartbeats 400000 in
theorem s_Model_isOrphans_L39 {g : zk_T} {R4 : Int32 → Int32 → zm → Prop} {K : Int32 → zm → Prop} (hR4 : ∀ {x1 : Int32} {x2 : Int32} {m : zm}, R4 x1 x2 m → zq_V (zk_g g) ("RiichiTableModel", prog_9_method_13_code, 3, (some .boolean), false, zq_rm 1 0 0) 0 0 4 [some (.ref 33), some (.int x1), some (.int x2)] [] (zm_hp m) (zm_QI K)) {x2 : Int32} {m : zm} (hJ : j_Model_isOrphans_L39  R4 K x2 m) : zq_V (zk_g g) ("RiichiTableModel", prog_9_method_13_code, 3, (some .boolean), false, zq_rm 1 0 0) 0 0 39 [some (.ref 33), none, some (.int x2)] [] (zm_hp m) (zm_QI K) := by
  unfold j_Model_isOrphans_L39 at hJ
  refine zq_iconst (v := 0) d_Model_isOrphans_39 zk_i0 ?_
  refine zr_less (L' := [some (.ref 33), none, some (.int x2)]) ⟨rfl, ⟨rfl, trivial⟩⟩ ?_
  exact s_Model_isOrphans_L40  hR4  hJ
set_option maxHeartbeats 400000 in
theorem s_Model_isOrphans_L28 {g : zk_T} {R4 : Int32 → Int32 → zm → Prop} {K : Int32 → zm → Prop} (hR4 : ∀ {x1 : Int32} {x2 : Int32} {m : zm}, R4 x1 x2 m → zq_V (zk_g g) ("RiichiTableModel", prog_9_method_13_code, 3, (some .boolean), false, zq_rm 1 0 0) 0 0 4 [some (.ref 33), some (.int x1), some (.int x2)] [] (zm_hp m) (zm_QI K)) {x2 : Int32} {t0 : Int32} {m : zm} (hJ : j_Model_isOrphans_L28  R4 K x2 t0 m) : zq_V (zk_g g) ("RiichiTableModel", prog_9_method_13_code, 3, (some .boolean), false, zq_rm 1 0 0) 0 0 28 [some (.ref 33), none, some (.int x2)] [.int t0] (zm_hp m) (zm_QI K) := by
  unfold j_Model_isOrphans_L28 at hJ
  refine zq_iload_n d_Model_isOrphans_28 rfl rfl ?_
  refine zr_csI (as := [.int x2]) (st := [.int t0]) d_Model_isOrphans_29 cc_Model_133 cs_Model_outer (s_Model_outer  hJ) rfl ⟨Nat.le_of_ble_eq_true rfl, Nat.le_of_ble_eq_true rfl⟩ (Nat.le_of_ble_eq_true rfl) ⟨Nat.le_refl _, Nat.le_refl _⟩ rfl (fun r2 m1 hJ => ?_)
  refine zq_icmp_ne (tgt := 39) d_Model_isOrphans_32 (by decide) (fun c => ?_) (fun c => ?_)
  · have hJ := hJ.1 c
    refine zr_less (L' := [some (.ref 33), none, some (.int x2)]) ⟨rfl, ⟨rfl, trivial⟩⟩ ?_
    exact s_Model_isOrphans_L39  hR4  hJ
  · have hJ := hJ.2 c
    refine zq_iconst (v := 1) d_Model_isOrphans_35 zk_i1 ?_
    refine zq_goto (tgt := 40) d_Model_isOrphans_36 (by decide) ?_
    refine zr_less (L' := [some (.ref 33), none, some (.int x2)]) ⟨rfl, ⟨rfl, trivial⟩⟩ ?_
    exact s_Model_isOrphans_L40  hR4  hJ
set_option maxHeartbeats 400000 in
theorem s_Model_isOrphans_L4 {g : zk_T} {K : Int32 → zm → Prop} : ∀ (n : Nat) {x1 : Int32} {x2 : Int32} {m : zm}, j_Model_isOrphans_L4   K n x1 x2 m → zq_V (zk_g g) ("RiichiTableModel", prog_9_method_13_code, 3, (some .boolean), false, zq_rm 1 0 0) 0 0 4 [some (.ref 33), some (.int x1), some (.int x2)] [] (zm_hp m) (zm_QI K) := by
  intro n
  induction n with
  | zero =>
    intro x1 x2 m hJ
    exact False.elim hJ
  | succ n ih =>
    intro x1 x2 m hJ
    rw [j_Model_isOrphans_L4] at hJ
    refine zq_iload_n d_Model_isOrphans_4 rfl rfl ?_
    refine zq_bipush (v := 34) d_Model_isOrphans_5 zk_b34 ?_
    refine zq_icmp_ge (tgt := 47) d_Model_isOrphans_7 (by decide) (fun c => ?_) (fun c => ?_)
    · have hJ := hJ.1 c
      refine zq_iload_n d_Model_isOrphans_47 rfl rfl ?_
      exact zq_iret d_Model_isOrphans_48 rfl hJ.1.nar (Nat.le_refl _) (Nat.le_refl _) ⟨_, _, rfl, rfl, hJ.2⟩
    · have hJ := hJ.2 c
      refine zq_iload_n d_Model_isOrphans_10 rfl rfl ?_
      refine zq_if_eq (tgt := 39) d_Model_isOrphans_11 (by decide) (fun c => ?_) (fun c => ?_)
      · have hJ := hJ.1 c
        refine zr_less (L' := [some (.ref 33), none, some (.int x2)]) ⟨rfl, ⟨rfl, trivial⟩⟩ ?_
        exact s_Model_isOrphans_L39  ih  hJ
      · have hJ := hJ.2 c
        refine zq_aload_n d_Model_isOrphans_14 rfl rfl ?_
        refine zm_getR fg_Model_60 d_Model_isOrphans_15 zs_Model rfl ?_
        refine zq_iload_n d_Model_isOrphans_18 rfl rfl ?_
        obtain ⟨hb, hJ⟩ := hJ
        refine zm_ald d_Model_isOrphans_19 (rfl : zm_sh[50]? = some (.inl (0, 34, .inl (fun _ => 0)))) hb ?_
        refine zq_if_le (tgt := 27) d_Model_isOrphans_20 (by decide) (fun c => ?_) (fun c => ?_)
        · have hJ := hJ.1 c
          refine zq_iconst (v := 0) d_Model_isOrphans_27 zk_i0 ?_
          refine zr_less (L' := [some (.ref 33), none, some (.int x2)]) ⟨rfl, ⟨rfl, trivial⟩⟩ ?_
          exact s_Model_isOrphans_L28  ih  hJ
        · have hJ := hJ.2 c
          refine zq_iconst (v := 1) d_Model_isOrphans_23 zk_i1 ?_
          refine zq_goto (tgt := 28) d_Model_isOrphans_24 (by decide) ?_
          refine zr_less (L' := [some (.ref 33), none, some (.int x2)]) ⟨rfl, ⟨rfl, trivial⟩⟩ ?_
          exact s_Model_isOrphans_L28  ih  hJ
set_option maxHeartbeats 400000 in
theorem s_Model_isOrphans {g : zk_T} {K : Int32 → zm → Prop} {m : zm} (hJ : j_Model_isOrphans  m K) : zq_Mt (zk_g g) y_Model_isOrphans 1 0 0 [.ref 33] (zm_hp m) (zm_QI K) := by
  unfold j_Model_isOrphans at hJ
  refine zq_meth (ini := false) rfl (fun h => by cases h) (Nat.le_of_ble_eq_true rfl) ?_
  refine zr_L (F := ("RiichiTableModel", prog_9_method_13_code, 3, (some .boolean), false, zq_rm 1 0 0)) (L' := [some (.ref 33), none, none]) rfl ?_
  refine zq_iconst (v := 1) d_Model_isOrphans_0 zk_i1 ?_
  refine zr_istore_n (L' := [some (.ref 33), some (.int 1), none]) d_Model_isOrphans_1 rfl (Nat.le_of_ble_eq_true rfl) rfl ?_
  refine zq_iconst (v := 0) d_Model_isOrphans_2 zk_i0 ?_
  refine zr_istore_n (L' := [some (.ref 33), some (.int 1), some (.int 0)]) d_Model_isOrphans_3 rfl (Nat.le_of_ble_eq_true rfl) rfl ?_
  refine zr_less (L' := [some (.ref 33), some (.int 1), some (.int 0)]) ⟨rfl, ⟨rfl, ⟨rfl, trivial⟩⟩⟩ ?_
  obtain ⟨n4, hJ⟩ := hJ
  exact s_Model_isOrphans_L4   n4  hJ
set_option maxHeartbeats 400000 in
theorem s_Model_isPairs_L27 {g : zk_T} {R4 : Int32 → Int32 → zm → Prop} {K : Int32 → zm → Prop} (hR4 : ∀ {x1 : Int32} {x2 : Int32} {m : zm}, R4 x1 x2 m → zq_V (zk_g g) ("RiichiTableModel", prog_9_method_12_code, 3, (some .boolean), false, zq_rm 0 0 0) 0 0 4 [some (.ref 33), some (.int x1), some (.int x2)] [] (zm_hp m) (zm_QI K)) {x2 : Int32} {t0 : Int32} {m : zm} (hJ : j_Model_isPairs_L27  R4 K x2 t0 m) : zq_V (zk_g g) ("RiichiTableModel", prog_9_method_12_code, 3, (some .boolean), false, zq_rm 0 0 0) 0 0 27 [some (.ref 33), none, some (.int x2)] [.int t0] (zm_hp m) (zm_QI K) := by
  unfold j_Model_isPairs_L27 at hJ
  refine zr_istore_n (L' := [some (.ref 33), some (.int t0), some (.int x2)]) d_Model_isPairs_27 rfl (Nat.le_of_ble_eq_true rfl) rfl ?_
  refine zr_iinc (d' := 1) d_Model_isPairs_28 zk_i1 rfl (Nat.le_of_ble_eq_true rfl) (fun y1 hy1 => ?_)
  have hJ := hJ y1 hy1
  refine zr_L (L' := [some (.ref 33), some (.int t0), some (.int y1)]) rfl ?_
  refine zq_goto (tgt := 4) d_Model_isPairs_31 (by decide) ?_
  refine zr_less (L' := [some (.ref 33), some (.int t0), some (.int y1)]) ⟨rfl, ⟨rfl, ⟨rfl, trivial⟩⟩⟩ ?_
  exact hR4  hJ
set_option maxHeartbeats 400000 in
theorem s_Model_isPairs_L45 {g : zk_T} {K : Int32 → zm → Prop} {t0 : Int32} {m : zm} (hJ : j_Model_isPairs_L45   K t0 m) : zq_V (zk_g g) ("RiichiTableModel", prog_9_method_12_code, 3, (some .boolean), false, zq_rm 0 0 0) 0 0 45 [some (.ref 33), none, none] [.int t0] (zm_hp m) (zm_QI K) := by
  unfold j_Model_isPairs_L45 at hJ
  exact zq_iret d_Model_isPairs_45 rfl hJ.1.nar (Nat.le_refl _) (Nat.le_refl _) ⟨_, _, rfl, rfl, hJ.2⟩
set_option maxHeartbeats 400000 in
theorem s_Model_isPairs_L4 {g : zk_T} {K : Int32 → zm → Prop} : ∀ (n : Nat) {x1 : Int32} {x2 : Int32} {m : zm}, j_Model_isPairs_L4   K n x1 x2 m → zq_V (zk_g g) ("RiichiTableModel", prog_9_method_12_code, 3, (some .boolean), false, zq_rm 0 0 0) 0 0 4 [some (.ref 33), some (.int x1), some (.int x2)] [] (zm_hp m) (zm_QI K) := by
  intro n
  induction n with
  | zero =>
    intro x1 x2 m hJ
    exact False.elim hJ
  | succ n ih =>
    intro x1 x2 m hJ
    rw [j_Model_isPairs_L4] at hJ
    refine zq_iload_n d_Model_isPairs_4 rfl rfl ?_
    refine zq_bipush (v := 34) d_Model_isPairs_5 zk_b34 ?_
    refine zq_icmp_ge (tgt := 34) d_Model_isPairs_7 (by decide) (fun c => ?_) (fun c => ?_)
    · have hJ := hJ.1 c
      refine zq_iload_n d_Model_isPairs_34 rfl rfl ?_
      refine zq_bipush (v := 7) d_Model_isPairs_35 zk_b7 ?_
      refine zq_icmp_ne (tgt := 44) d_Model_isPairs_37 (by decide) (fun c => ?_) (fun c => ?_)
      · have hJ := hJ.1 c
        refine zq_iconst (v := 0) d_Model_isPairs_44 zk_i0 ?_
        refine zr_less (L' := [some (.ref 33), none, none]) ⟨rfl, trivial⟩ ?_
        exact s_Model_isPairs_L45    hJ
      · have hJ := hJ.2 c
        refine zq_iconst (v := 1) d_Model_isPairs_40 zk_i1 ?_
        refine zq_goto (tgt := 45) d_Model_isPairs_41 (by decide) ?_
        refine zr_less (L' := [some (.ref 33), none, none]) ⟨rfl, trivial⟩ ?_
        exact s_Model_isPairs_L45    hJ
    · have hJ := hJ.2 c
      refine zq_aload_n d_Model_isPairs_10 rfl rfl ?_
      refine zm_getR fg_Model_60 d_Model_isPairs_11 zs_Model rfl ?_
      refine zq_iload_n d_Model_isPairs_14 rfl rfl ?_
      obtain ⟨hb, hJ⟩ := hJ
      refine zm_ald d_Model_isPairs_15 (rfl : zm_sh[50]? = some (.inl (0, 34, .inl (fun _ => 0)))) hb ?_
      refine zq_iconst (v := 2) d_Model_isPairs_16 zk_i2 ?_
      refine zq_icmp_ne (tgt := 26) d_Model_isPairs_17 (by decide) (fun c => ?_) (fun c => ?_)
      · have hJ := hJ.1 c
        refine zq_iload_n d_Model_isPairs_26 rfl rfl ?_
        refine zr_less (L' := [some (.ref 33), none, some (.int x2)]) ⟨rfl, ⟨rfl, trivial⟩⟩ ?_
        exact s_Model_isPairs_L27  ih  hJ
      · have hJ := hJ.2 c
        refine zq_iload_n d_Model_isPairs_20 rfl rfl ?_
        refine zq_iconst (v := 1) d_Model_isPairs_21 zk_i1 ?_
        refine zq_iadd d_Model_isPairs_22 ?_
        refine zq_goto (tgt := 27) d_Model_isPairs_23 (by decide) ?_
        refine zr_less (L' := [some (.ref 33), none, some (.int x2)]) ⟨rfl, ⟨rfl, trivial⟩⟩ ?_
        exact s_Model_isPairs_L27  ih  hJ
set_option maxHeartbeats 400000 in
theorem s_Model_isPairs {g : zk_T} {K : Int32 → zm → Prop} {m : zm} (hJ : j_Model_isPairs  m K) : zq_Mt (zk_g g) y_Model_isPairs 0 0 0 [.ref 33] (zm_hp m) (zm_QI K) := by
  unfold j_Model_isPairs at hJ
  refine zq_meth (ini := false) rfl (fun h => by cases h) (Nat.le_of_ble_eq_true rfl) ?_
  refine zr_L (F := ("RiichiTableModel", prog_9_method_12_code, 3, (some .boolean), false, zq_rm 0 0 0)) (L' := [some (.ref 33), none, none]) rfl ?_
  refine zq_iconst (v := 0) d_Model_isPairs_0 zk_i0 ?_
  refine zr_istore_n (L' := [some (.ref 33), some (.int 0), none]) d_Model_isPairs_1 rfl (Nat.le_of_ble_eq_true rfl) rfl ?_
  refine zq_iconst (v := 0) d_Model_isPairs_2 zk_i0 ?_
  refine zr_istore_n (L' := [some (.ref 33), some (.int 0), some (.int 0)]) d_Model_isPairs_3 rfl (Nat.le_of_ble_eq_true rfl) rfl ?_
  refine zr_less (L' := [some (.ref 33), some (.int 0), some (.int 0)]) ⟨rfl, ⟨rfl, ⟨rfl, trivial⟩⟩⟩ ?_
  obtain ⟨n4, hJ⟩ := hJ
  exact s_Model_isPairs_L4   n4  hJ
