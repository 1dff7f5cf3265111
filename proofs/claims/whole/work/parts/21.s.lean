set_option maxHeartbeats 400000 in
theorem s_Judge_yakuOfTripletSorts_L65 {g : zk_T} {R9 : Int32 → Int32 → Int32 → Int32 → zm → Prop} {K : Int64 → zm → Prop} (hR9 : ∀ {x1 : Int32} {x2 : Int32} {x3 : Int32} {x4 : Int32} {m : zm}, R9 x1 x2 x3 x4 m → zq_V (zk_g g) ("RiichiTable$Judge", prog_2_method_19_code, 6, (some .long), false, zq_rm 1 0 0) 0 0 9 [some (.ref 2), some (.int x1), some (.int x2), some (.int x3), some (.int x4), none] [] (zm_hp m) (zm_QL K)) {x1 : Int32} {x2 : Int32} {x3 : Int32} {x4 : Int32} {m : zm} (hJ : j_Judge_yakuOfTripletSorts_L65  R9 K x1 x2 x3 x4 m) : zq_V (zk_g g) ("RiichiTable$Judge", prog_2_method_19_code, 6, (some .long), false, zq_rm 1 0 0) 0 0 65 [some (.ref 2), some (.int x1), some (.int x2), some (.int x3), some (.int x4), none] [] (zm_hp m) (zm_QL K) := by
  unfold j_Judge_yakuOfTripletSorts_L65 at hJ
  refine zr_iinc (d' := 1) d_Judge_yakuOfTripletSorts_65 zk_i1 rfl (Nat.le_of_ble_eq_true rfl) (fun y7 hy7 => ?_)
  have hJ := hJ y7 hy7
  refine zr_L (L' := [some (.ref 2), some (.int x1), some (.int x2), some (.int x3), some (.int y7), none]) rfl ?_
  refine zq_goto (tgt := 9) d_Judge_yakuOfTripletSorts_68 (by decide) ?_
  refine zr_less (L' := [some (.ref 2), some (.int x1), some (.int x2), some (.int x3), some (.int y7), none]) ⟨rfl, ⟨rfl, ⟨rfl, ⟨rfl, ⟨rfl, trivial⟩⟩⟩⟩⟩ ?_
  exact hR9  hJ
set_option maxHeartbeats 400000 in
theorem s_Judge_yakuOfTripletSorts_L63 {g : zk_T} {R9 : Int32 → Int32 → Int32 → Int32 → zm → Prop} {K : Int64 → zm → Prop} (hR9 : ∀ {x1 : Int32} {x2 : Int32} {x3 : Int32} {x4 : Int32} {m : zm}, R9 x1 x2 x3 x4 m → zq_V (zk_g g) ("RiichiTable$Judge", prog_2_method_19_code, 6, (some .long), false, zq_rm 1 0 0) 0 0 9 [some (.ref 2), some (.int x1), some (.int x2), some (.int x3), some (.int x4), none] [] (zm_hp m) (zm_QL K)) {x1 : Int32} {x2 : Int32} {x4 : Int32} {t0 : Int32} {t1 : Int32} {m : zm} (hJ : j_Judge_yakuOfTripletSorts_L63  R9 K x1 x2 x4 t0 t1 m) : zq_V (zk_g g) ("RiichiTable$Judge", prog_2_method_19_code, 6, (some .long), false, zq_rm 1 0 0) 0 0 63 [some (.ref 2), some (.int x1), some (.int x2), none, some (.int x4), none] [.int t0, .int t1] (zm_hp m) (zm_QL K) := by
  unfold j_Judge_yakuOfTripletSorts_L63 at hJ
  refine zq_iadd d_Judge_yakuOfTripletSorts_63 ?_
  refine zr_topi (fun y6 hy6 => ?_)
  have hJ := hJ y6 hy6
  refine zr_istore_n (L' := [some (.ref 2), some (.int x1), some (.int x2), some (.int y6), some (.int x4), none]) d_Judge_yakuOfTripletSorts_64 rfl (Nat.le_of_ble_eq_true rfl) rfl ?_
  refine zr_less (L' := [some (.ref 2), some (.int x1), some (.int x2), some (.int y6), some (.int x4), none]) ⟨rfl, ⟨rfl, ⟨rfl, ⟨rfl, ⟨rfl, trivial⟩⟩⟩⟩⟩ ?_
  exact s_Judge_yakuOfTripletSorts_L65  hR9  hJ
set_option maxHeartbeats 400000 in
theorem s_Judge_yakuOfTripletSorts_L49 {g : zk_T} {R9 : Int32 → Int32 → Int32 → Int32 → zm → Prop} {K : Int64 → zm → Prop} (hR9 : ∀ {x1 : Int32} {x2 : Int32} {x3 : Int32} {x4 : Int32} {m : zm}, R9 x1 x2 x3 x4 m → zq_V (zk_g g) ("RiichiTable$Judge", prog_2_method_19_code, 6, (some .long), false, zq_rm 1 0 0) 0 0 9 [some (.ref 2), some (.int x1), some (.int x2), some (.int x3), some (.int x4), none] [] (zm_hp m) (zm_QL K)) {x1 : Int32} {x3 : Int32} {x4 : Int32} {x5 : Int32} {t0 : Int32} {t1 : Int32} {m : zm} (hJ : j_Judge_yakuOfTripletSorts_L49  R9 K x1 x3 x4 x5 t0 t1 m) : zq_V (zk_g g) ("RiichiTable$Judge", prog_2_method_19_code, 6, (some .long), false, zq_rm 1 0 0) 0 0 49 [some (.ref 2), some (.int x1), none, some (.int x3), some (.int x4), some (.int x5)] [.int t0, .int t1] (zm_hp m) (zm_QL K) := by
  unfold j_Judge_yakuOfTripletSorts_L49 at hJ
  refine zq_iadd d_Judge_yakuOfTripletSorts_49 ?_
  refine zr_topi (fun y5 hy5 => ?_)
  have hJ := hJ y5 hy5
  refine zr_istore_n (L' := [some (.ref 2), some (.int x1), some (.int y5), some (.int x3), some (.int x4), some (.int x5)]) d_Judge_yakuOfTripletSorts_50 rfl (Nat.le_of_ble_eq_true rfl) rfl ?_
  refine zq_iload_n d_Judge_yakuOfTripletSorts_51 rfl rfl ?_
  refine zq_iload d_Judge_yakuOfTripletSorts_52 rfl ?_
  refine zq_iconst (v := 1) d_Judge_yakuOfTripletSorts_54 zk_i1 ?_
  refine zq_icmp_ne (tgt := 62) d_Judge_yakuOfTripletSorts_55 (by decide) (fun c => ?_) (fun c => ?_)
  · have hJ := hJ.1 c
    refine zq_iconst (v := 1) d_Judge_yakuOfTripletSorts_62 zk_i1 ?_
    refine zr_less (L' := [some (.ref 2), some (.int x1), some (.int y5), none, some (.int x4), none]) ⟨rfl, ⟨rfl, ⟨rfl, ⟨rfl, trivial⟩⟩⟩⟩ ?_
    exact s_Judge_yakuOfTripletSorts_L63  hR9  hJ
  · have hJ := hJ.2 c
    refine zq_iconst (v := 0) d_Judge_yakuOfTripletSorts_58 zk_i0 ?_
    refine zq_goto (tgt := 63) d_Judge_yakuOfTripletSorts_59 (by decide) ?_
    refine zr_less (L' := [some (.ref 2), some (.int x1), some (.int y5), none, some (.int x4), none]) ⟨rfl, ⟨rfl, ⟨rfl, ⟨rfl, trivial⟩⟩⟩⟩ ?_
    exact s_Judge_yakuOfTripletSorts_L63  hR9  hJ
set_option maxHeartbeats 400000 in
theorem s_Judge_yakuOfTripletSorts_L144 {g : zk_T} {K : Int64 → zm → Prop} {t0 : Int32} {t1 : Int64} {m : zm} (hJ : j_Judge_yakuOfTripletSorts_L144   K t0 t1 m) : zq_V (zk_g g) ("RiichiTable$Judge", prog_2_method_19_code, 6, (some .long), false, zq_rm 1 0 0) 0 0 144 [some (.ref 2), none, none, none, none, none] [.int t0, .long t1] (zm_hp m) (zm_QL K) := by
  unfold j_Judge_yakuOfTripletSorts_L144 at hJ
  refine zq_bipush (v := 33) d_Judge_yakuOfTripletSorts_144 zk_b33 ?_
  refine zr_csL (as := [.int t0, .int 33]) (st := [.long t1]) d_Judge_yakuOfTripletSorts_146 cc_Judge_191 cs_Judge_bitIf (s_Judge_bitIf  hJ) rfl ⟨Nat.le_of_ble_eq_true rfl, Nat.le_of_ble_eq_true rfl⟩ (Nat.le_of_ble_eq_true rfl) ⟨Nat.le_refl _, Nat.le_refl _⟩ rfl (fun r17 m16 hJ => ?_)
  refine zq_lor d_Judge_yakuOfTripletSorts_149 ?_
  exact zq_lret d_Judge_yakuOfTripletSorts_150 rfl (Nat.le_refl _) (Nat.le_refl _) ⟨_, _, rfl, rfl, hJ⟩
set_option maxHeartbeats 400000 in
theorem s_Judge_yakuOfTripletSorts_L128 {g : zk_T} {K : Int64 → zm → Prop} {x3 : Int32} {t0 : Int32} {t1 : Int64} {m : zm} (hJ : j_Judge_yakuOfTripletSorts_L128   K x3 t0 t1 m) : zq_V (zk_g g) ("RiichiTable$Judge", prog_2_method_19_code, 6, (some .long), false, zq_rm 1 0 0) 0 0 128 [some (.ref 2), none, none, some (.int x3), none, none] [.int t0, .long t1] (zm_hp m) (zm_QL K) := by
  unfold j_Judge_yakuOfTripletSorts_L128 at hJ
  refine zq_bipush (v := 32) d_Judge_yakuOfTripletSorts_128 zk_b32 ?_
  refine zr_csL (as := [.int t0, .int 32]) (st := [.long t1]) d_Judge_yakuOfTripletSorts_130 cc_Judge_191 cs_Judge_bitIf (s_Judge_bitIf  hJ) rfl ⟨Nat.le_of_ble_eq_true rfl, Nat.le_of_ble_eq_true rfl⟩ (Nat.le_of_ble_eq_true rfl) ⟨Nat.le_refl _, Nat.le_refl _⟩ rfl (fun r15 m14 hJ => ?_)
  refine zq_lor d_Judge_yakuOfTripletSorts_133 ?_
  refine zq_iload_n d_Judge_yakuOfTripletSorts_134 rfl rfl ?_
  refine zq_iconst (v := 4) d_Judge_yakuOfTripletSorts_135 zk_i4 ?_
  refine zq_icmp_ne (tgt := 143) d_Judge_yakuOfTripletSorts_136 (by decide) (fun c => ?_) (fun c => ?_)
  · have hJ := hJ.1 c
    refine zq_iconst (v := 0) d_Judge_yakuOfTripletSorts_143 zk_i0 ?_
    refine zr_less (L' := [some (.ref 2), none, none, none, none, none]) ⟨rfl, trivial⟩ ?_
    exact s_Judge_yakuOfTripletSorts_L144    hJ
  · have hJ := hJ.2 c
    refine zq_iconst (v := 1) d_Judge_yakuOfTripletSorts_139 zk_i1 ?_
    refine zq_goto (tgt := 144) d_Judge_yakuOfTripletSorts_140 (by decide) ?_
    refine zr_less (L' := [some (.ref 2), none, none, none, none, none]) ⟨rfl, trivial⟩ ?_
    exact s_Judge_yakuOfTripletSorts_L144    hJ
set_option maxHeartbeats 400000 in
theorem s_Judge_yakuOfTripletSorts_L112 {g : zk_T} {K : Int64 → zm → Prop} {x2 : Int32} {x3 : Int32} {t0 : Int32} {t1 : Int64} {m : zm} (hJ : j_Judge_yakuOfTripletSorts_L112   K x2 x3 t0 t1 m) : zq_V (zk_g g) ("RiichiTable$Judge", prog_2_method_19_code, 6, (some .long), false, zq_rm 1 0 0) 0 0 112 [some (.ref 2), none, some (.int x2), some (.int x3), none, none] [.int t0, .long t1] (zm_hp m) (zm_QL K) := by
  unfold j_Judge_yakuOfTripletSorts_L112 at hJ
  refine zq_bipush (v := 21) d_Judge_yakuOfTripletSorts_112 zk_b21 ?_
  refine zr_csL (as := [.int t0, .int 21]) (st := [.long t1]) d_Judge_yakuOfTripletSorts_114 cc_Judge_191 cs_Judge_bitIf (s_Judge_bitIf  hJ) rfl ⟨Nat.le_of_ble_eq_true rfl, Nat.le_of_ble_eq_true rfl⟩ (Nat.le_of_ble_eq_true rfl) ⟨Nat.le_refl _, Nat.le_refl _⟩ rfl (fun r13 m12 hJ => ?_)
  refine zq_lor d_Judge_yakuOfTripletSorts_117 ?_
  refine zq_iload_n d_Judge_yakuOfTripletSorts_118 rfl rfl ?_
  refine zq_iconst (v := 4) d_Judge_yakuOfTripletSorts_119 zk_i4 ?_
  refine zq_icmp_ne (tgt := 127) d_Judge_yakuOfTripletSorts_120 (by decide) (fun c => ?_) (fun c => ?_)
  · have hJ := hJ.1 c
    refine zq_iconst (v := 0) d_Judge_yakuOfTripletSorts_127 zk_i0 ?_
    refine zr_less (L' := [some (.ref 2), none, none, some (.int x3), none, none]) ⟨rfl, ⟨rfl, trivial⟩⟩ ?_
    exact s_Judge_yakuOfTripletSorts_L128    hJ
  · have hJ := hJ.2 c
    refine zq_iconst (v := 1) d_Judge_yakuOfTripletSorts_123 zk_i1 ?_
    refine zq_goto (tgt := 128) d_Judge_yakuOfTripletSorts_124 (by decide) ?_
    refine zr_less (L' := [some (.ref 2), none, none, some (.int x3), none, none]) ⟨rfl, ⟨rfl, trivial⟩⟩ ?_
    exact s_Judge_yakuOfTripletSorts_L128    hJ
set_option maxHeartbeats 400000 in
theorem s_Judge_yakuOfTripletSorts_L96 {g : zk_T} {K : Int64 → zm → Prop} {x2 : Int32} {x3 : Int32} {t0 : Int32} {t1 : Int64} {m : zm} (hJ : j_Judge_yakuOfTripletSorts_L96   K x2 x3 t0 t1 m) : zq_V (zk_g g) ("RiichiTable$Judge", prog_2_method_19_code, 6, (some .long), false, zq_rm 1 0 0) 0 0 96 [some (.ref 2), none, some (.int x2), some (.int x3), none, none] [.int t0, .long t1] (zm_hp m) (zm_QL K) := by
  unfold j_Judge_yakuOfTripletSorts_L96 at hJ
  refine zq_bipush (v := 20) d_Judge_yakuOfTripletSorts_96 zk_b20 ?_
  refine zr_csL (as := [.int t0, .int 20]) (st := [.long t1]) d_Judge_yakuOfTripletSorts_98 cc_Judge_191 cs_Judge_bitIf (s_Judge_bitIf  hJ) rfl ⟨Nat.le_of_ble_eq_true rfl, Nat.le_of_ble_eq_true rfl⟩ (Nat.le_of_ble_eq_true rfl) ⟨Nat.le_refl _, Nat.le_refl _⟩ rfl (fun r11 m10 hJ => ?_)
  refine zq_lor d_Judge_yakuOfTripletSorts_101 ?_
  refine zq_iload_n d_Judge_yakuOfTripletSorts_102 rfl rfl ?_
  refine zq_iconst (v := 3) d_Judge_yakuOfTripletSorts_103 zk_i3 ?_
  refine zq_icmp_ne (tgt := 111) d_Judge_yakuOfTripletSorts_104 (by decide) (fun c => ?_) (fun c => ?_)
  · have hJ := hJ.1 c
    refine zq_iconst (v := 0) d_Judge_yakuOfTripletSorts_111 zk_i0 ?_
    refine zr_less (L' := [some (.ref 2), none, some (.int x2), some (.int x3), none, none]) ⟨rfl, ⟨rfl, ⟨rfl, trivial⟩⟩⟩ ?_
    exact s_Judge_yakuOfTripletSorts_L112    hJ
  · have hJ := hJ.2 c
    refine zq_iconst (v := 1) d_Judge_yakuOfTripletSorts_107 zk_i1 ?_
    refine zq_goto (tgt := 112) d_Judge_yakuOfTripletSorts_108 (by decide) ?_
    refine zr_less (L' := [some (.ref 2), none, some (.int x2), some (.int x3), none, none]) ⟨rfl, ⟨rfl, ⟨rfl, trivial⟩⟩⟩ ?_
    exact s_Judge_yakuOfTripletSorts_L112    hJ
set_option maxHeartbeats 400000 in
theorem s_Judge_yakuOfTripletSorts_L81 {g : zk_T} {K : Int64 → zm → Prop} {x2 : Int32} {x3 : Int32} {t0 : Int32} {m : zm} (hJ : j_Judge_yakuOfTripletSorts_L81   K x2 x3 t0 m) : zq_V (zk_g g) ("RiichiTable$Judge", prog_2_method_19_code, 6, (some .long), false, zq_rm 1 0 0) 0 0 81 [some (.ref 2), none, some (.int x2), some (.int x3), none, none] [.int t0] (zm_hp m) (zm_QL K) := by
  unfold j_Judge_yakuOfTripletSorts_L81 at hJ
  refine zq_bipush (v := 19) d_Judge_yakuOfTripletSorts_81 zk_b19 ?_
  refine zr_csL (as := [.int t0, .int 19]) (st := []) d_Judge_yakuOfTripletSorts_83 cc_Judge_191 cs_Judge_bitIf (s_Judge_bitIf  hJ) rfl ⟨Nat.le_of_ble_eq_true rfl, Nat.le_of_ble_eq_true rfl⟩ (Nat.le_of_ble_eq_true rfl) ⟨Nat.le_refl _, Nat.le_refl _⟩ rfl (fun r9 m8 hJ => ?_)
  refine zq_iload_n d_Judge_yakuOfTripletSorts_86 rfl rfl ?_
  refine zq_iconst (v := 3) d_Judge_yakuOfTripletSorts_87 zk_i3 ?_
  refine zq_icmp_ne (tgt := 95) d_Judge_yakuOfTripletSorts_88 (by decide) (fun c => ?_) (fun c => ?_)
  · have hJ := hJ.1 c
    refine zq_iconst (v := 0) d_Judge_yakuOfTripletSorts_95 zk_i0 ?_
    refine zr_less (L' := [some (.ref 2), none, some (.int x2), some (.int x3), none, none]) ⟨rfl, ⟨rfl, ⟨rfl, trivial⟩⟩⟩ ?_
    exact s_Judge_yakuOfTripletSorts_L96    hJ
  · have hJ := hJ.2 c
    refine zq_iconst (v := 1) d_Judge_yakuOfTripletSorts_91 zk_i1 ?_
    refine zq_goto (tgt := 96) d_Judge_yakuOfTripletSorts_92 (by decide) ?_
    refine zr_less (L' := [some (.ref 2), none, some (.int x2), some (.int x3), none, none]) ⟨rfl, ⟨rfl, ⟨rfl, trivial⟩⟩⟩ ?_
    exact s_Judge_yakuOfTripletSorts_L96    hJ
set_option maxHeartbeats 400000 in
theorem s_Judge_yakuOfTripletSorts_L9 {g : zk_T} {K : Int64 → zm → Prop} : ∀ (n : Nat) {x1 : Int32} {x2 : Int32} {x3 : Int32} {x4 : Int32} {m : zm}, j_Judge_yakuOfTripletSorts_L9   K n x1 x2 x3 x4 m → zq_V (zk_g g) ("RiichiTable$Judge", prog_2_method_19_code, 6, (some .long), false, zq_rm 1 0 0) 0 0 9 [some (.ref 2), some (.int x1), some (.int x2), some (.int x3), some (.int x4), none] [] (zm_hp m) (zm_QL K) := by
  intro n
  induction n with
  | zero =>
    intro x1 x2 x3 x4 m hJ
    exact False.elim hJ
  | succ n ih =>
    intro x1 x2 x3 x4 m hJ
    rw [j_Judge_yakuOfTripletSorts_L9] at hJ
    refine zq_iload d_Judge_yakuOfTripletSorts_9 rfl ?_
    refine zq_iconst (v := 4) d_Judge_yakuOfTripletSorts_11 zk_i4 ?_
    refine zq_icmp_ge (tgt := 71) d_Judge_yakuOfTripletSorts_12 (by decide) (fun c => ?_) (fun c => ?_)
    · have hJ := hJ.1 c
      refine zq_iload_n d_Judge_yakuOfTripletSorts_71 rfl rfl ?_
      refine zq_iconst (v := 4) d_Judge_yakuOfTripletSorts_72 zk_i4 ?_
      refine zq_icmp_ne (tgt := 80) d_Judge_yakuOfTripletSorts_73 (by decide) (fun c => ?_) (fun c => ?_)
      · have hJ := hJ.1 c
        refine zq_iconst (v := 0) d_Judge_yakuOfTripletSorts_80 zk_i0 ?_
        refine zr_less (L' := [some (.ref 2), none, some (.int x2), some (.int x3), none, none]) ⟨rfl, ⟨rfl, ⟨rfl, trivial⟩⟩⟩ ?_
        exact s_Judge_yakuOfTripletSorts_L81    hJ
      · have hJ := hJ.2 c
        refine zq_iconst (v := 1) d_Judge_yakuOfTripletSorts_76 zk_i1 ?_
        refine zq_goto (tgt := 81) d_Judge_yakuOfTripletSorts_77 (by decide) ?_
        refine zr_less (L' := [some (.ref 2), none, some (.int x2), some (.int x3), none, none]) ⟨rfl, ⟨rfl, ⟨rfl, trivial⟩⟩⟩ ?_
        exact s_Judge_yakuOfTripletSorts_L81    hJ
    · have hJ := hJ.2 c
      refine zq_aload_n d_Judge_yakuOfTripletSorts_15 rfl rfl ?_
      refine zm_getR fg_Judge_22 d_Judge_yakuOfTripletSorts_16 zs_Judge rfl ?_
      refine zq_iload d_Judge_yakuOfTripletSorts_19 rfl ?_
      obtain ⟨hb, hJ⟩ := hJ
      refine zm_ald d_Judge_yakuOfTripletSorts_21 (rfl : zm_sh[8]? = some (.inl (0, 4, .inl (fun _ => 0)))) hb ?_
      refine zq_iconst (v := 4) d_Judge_yakuOfTripletSorts_22 zk_i4 ?_
      refine zq_irem d_Judge_yakuOfTripletSorts_23 (by decide) ?_
      refine zr_topi (fun y1 hy1 => ?_)
      have hJ := hJ y1 hy1
      refine zr_istore (L' := [some (.ref 2), some (.int x1), some (.int x2), some (.int x3), some (.int x4), some (.int y1)]) d_Judge_yakuOfTripletSorts_24 (Nat.le_of_ble_eq_true rfl) rfl ?_
      refine zq_iload d_Judge_yakuOfTripletSorts_26 rfl ?_
      refine zq_if_eq (tgt := 65) d_Judge_yakuOfTripletSorts_28 (by decide) (fun c => ?_) (fun c => ?_)
      · have hJ := hJ.1 c
        refine zr_less (L' := [some (.ref 2), some (.int x1), some (.int x2), some (.int x3), some (.int x4), none]) ⟨rfl, ⟨rfl, ⟨rfl, ⟨rfl, ⟨rfl, trivial⟩⟩⟩⟩⟩ ?_
        exact s_Judge_yakuOfTripletSorts_L65  ih  hJ
      · have hJ := hJ.2 c
        refine zr_iinc (d' := 1) d_Judge_yakuOfTripletSorts_31 zk_i1 rfl (Nat.le_of_ble_eq_true rfl) (fun y2 hy2 => ?_)
        have hJ := hJ y2 hy2
        refine zr_L (L' := [some (.ref 2), some (.int y2), some (.int x2), some (.int x3), some (.int x4), some (.int y1)]) rfl ?_
        refine zq_iload_n d_Judge_yakuOfTripletSorts_34 rfl rfl ?_
        refine zq_aload_n d_Judge_yakuOfTripletSorts_35 rfl rfl ?_
        refine zq_iload d_Judge_yakuOfTripletSorts_36 rfl ?_
        refine zr_cvI (q := 2) (as := [.int x4]) (st := [.int x2]) d_Judge_yakuOfTripletSorts_38 cc_Judge_228 cv_Judge_isSetClosed zs_Judge (s_Judge_isSetClosed  hJ) rfl ⟨Nat.le_of_ble_eq_true rfl, Nat.le_of_ble_eq_true rfl⟩ (Nat.le_of_ble_eq_true rfl) ⟨Nat.le_refl _, Nat.le_refl _⟩ rfl (fun r4 m3 hJ => ?_)
        refine zq_if_eq (tgt := 48) d_Judge_yakuOfTripletSorts_41 (by decide) (fun c => ?_) (fun c => ?_)
        · have hJ := hJ.1 c
          refine zq_iconst (v := 0) d_Judge_yakuOfTripletSorts_48 zk_i0 ?_
          refine zr_less (L' := [some (.ref 2), some (.int y2), none, some (.int x3), some (.int x4), some (.int y1)]) ⟨rfl, ⟨rfl, ⟨rfl, ⟨rfl, ⟨rfl, trivial⟩⟩⟩⟩⟩ ?_
          exact s_Judge_yakuOfTripletSorts_L49  ih  hJ
        · have hJ := hJ.2 c
          refine zq_iconst (v := 1) d_Judge_yakuOfTripletSorts_44 zk_i1 ?_
          refine zq_goto (tgt := 49) d_Judge_yakuOfTripletSorts_45 (by decide) ?_
          refine zr_less (L' := [some (.ref 2), some (.int y2), none, some (.int x3), some (.int x4), some (.int y1)]) ⟨rfl, ⟨rfl, ⟨rfl, ⟨rfl, ⟨rfl, trivial⟩⟩⟩⟩⟩ ?_
          exact s_Judge_yakuOfTripletSorts_L49  ih  hJ
set_option maxHeartbeats 400000 in
theorem s_Judge_yakuOfTripletSorts {g : zk_T} {K : Int64 → zm → Prop} {m : zm} (hJ : j_Judge_yakuOfTripletSorts  m K) : zq_Mt (zk_g g) y_Judge_yakuOfTripletSorts 1 0 0 [.ref 2] (zm_hp m) (zm_QL K) := by
  unfold j_Judge_yakuOfTripletSorts at hJ
  refine zq_meth (ini := false) rfl (fun h => by cases h) (Nat.le_of_ble_eq_true rfl) ?_
  refine zr_L (F := ("RiichiTable$Judge", prog_2_method_19_code, 6, (some .long), false, zq_rm 1 0 0)) (L' := [some (.ref 2), none, none, none, none, none]) rfl ?_
  refine zq_iconst (v := 0) d_Judge_yakuOfTripletSorts_0 zk_i0 ?_
  refine zr_istore_n (L' := [some (.ref 2), some (.int 0), none, none, none, none]) d_Judge_yakuOfTripletSorts_1 rfl (Nat.le_of_ble_eq_true rfl) rfl ?_
  refine zq_iconst (v := 0) d_Judge_yakuOfTripletSorts_2 zk_i0 ?_
  refine zr_istore_n (L' := [some (.ref 2), some (.int 0), some (.int 0), none, none, none]) d_Judge_yakuOfTripletSorts_3 rfl (Nat.le_of_ble_eq_true rfl) rfl ?_
  refine zq_iconst (v := 0) d_Judge_yakuOfTripletSorts_4 zk_i0 ?_
  refine zr_istore_n (L' := [some (.ref 2), some (.int 0), some (.int 0), some (.int 0), none, none]) d_Judge_yakuOfTripletSorts_5 rfl (Nat.le_of_ble_eq_true rfl) rfl ?_
  refine zq_iconst (v := 0) d_Judge_yakuOfTripletSorts_6 zk_i0 ?_
  refine zr_istore (L' := [some (.ref 2), some (.int 0), some (.int 0), some (.int 0), some (.int 0), none]) d_Judge_yakuOfTripletSorts_7 (Nat.le_of_ble_eq_true rfl) rfl ?_
  refine zr_less (L' := [some (.ref 2), some (.int 0), some (.int 0), some (.int 0), some (.int 0), none]) ⟨rfl, ⟨rfl, ⟨rfl, ⟨rfl, ⟨rfl, trivial⟩⟩⟩⟩⟩ ?_
  obtain ⟨n9, hJ⟩ := hJ
  exact s_Judge_yakuOfTripletSorts_L9   n9  hJ
set_option maxHeartbeats 400000 in
theorem s_JLong_bitCount {g : zk_T} {a0 : Int64} {K : Int32 → zm → Prop} {m : zm} (hJ : j_JLong_bitCount a0 m K) : zq_Mt (zk_g g) y_JLong_bitCount 0 0 0 [.long a0] (zm_hp m) (zm_QI K) := by
  unfold j_JLong_bitCount at hJ
  refine zq_meth (ini := false) rfl (fun h => by cases h) (Nat.le_of_ble_eq_true rfl) ?_
  refine zr_L (F := ("java/lang/Long", prog_11_method_50_code, 2, (some .int), false, zq_rm 0 0 0)) (L' := [some (.long a0), none]) rfl ?_
  refine zq_lload_n d_JLong_bitCount_0 rfl rfl ?_
  refine zq_lload_n d_JLong_bitCount_1 rfl rfl ?_
  refine zq_iconst (v := 1) d_JLong_bitCount_2 zk_i1 ?_
  refine zq_lushr d_JLong_bitCount_3 ?_
  refine zq_ldc2 (v := 6148914691236517205) (zq_in (zq_c3 (List.mem_of_getElem? (i := 94) rfl)) rfl) d_JLong_bitCount_4 ?_
  refine zq_land d_JLong_bitCount_7 ?_
  refine zq_lsub d_JLong_bitCount_8 ?_
  refine zr_topl (fun y1 hy1 => ?_)
  have hJ := hJ y1 hy1
  refine zr_lstore_n (L' := [some (.long y1), none]) d_JLong_bitCount_9 rfl (Nat.le_of_ble_eq_true rfl) rfl ?_
  refine zq_lload_n d_JLong_bitCount_10 rfl rfl ?_
  refine zq_ldc2 (v := 3689348814741910323) (zq_in (zq_c3 (List.mem_of_getElem? (i := 95) rfl)) rfl) d_JLong_bitCount_11 ?_
  refine zq_land d_JLong_bitCount_14 ?_
  refine zq_lload_n d_JLong_bitCount_15 rfl rfl ?_
  refine zq_iconst (v := 2) d_JLong_bitCount_16 zk_i2 ?_
  refine zq_lushr d_JLong_bitCount_17 ?_
  refine zq_ldc2 (v := 3689348814741910323) (zq_in (zq_c3 (List.mem_of_getElem? (i := 95) rfl)) rfl) d_JLong_bitCount_18 ?_
  refine zq_land d_JLong_bitCount_21 ?_
  refine zq_ladd d_JLong_bitCount_22 ?_
  refine zr_topl (fun y2 hy2 => ?_)
  have hJ := hJ y2 hy2
  refine zr_lstore_n (L' := [some (.long y2), none]) d_JLong_bitCount_23 rfl (Nat.le_of_ble_eq_true rfl) rfl ?_
  refine zq_lload_n d_JLong_bitCount_24 rfl rfl ?_
  refine zq_lload_n d_JLong_bitCount_25 rfl rfl ?_
  refine zq_iconst (v := 4) d_JLong_bitCount_26 zk_i4 ?_
  refine zq_lushr d_JLong_bitCount_27 ?_
  refine zq_ladd d_JLong_bitCount_28 ?_
  refine zq_ldc2 (v := 1085102592571150095) (zq_in (zq_c3 (List.mem_of_getElem? (i := 96) rfl)) rfl) d_JLong_bitCount_29 ?_
  refine zq_land d_JLong_bitCount_32 ?_
  refine zr_topl (fun y3 hy3 => ?_)
  have hJ := hJ y3 hy3
  refine zr_lstore_n (L' := [some (.long y3), none]) d_JLong_bitCount_33 rfl (Nat.le_of_ble_eq_true rfl) rfl ?_
  refine zq_lload_n d_JLong_bitCount_34 rfl rfl ?_
  refine zq_lload_n d_JLong_bitCount_35 rfl rfl ?_
  refine zq_bipush (v := 8) d_JLong_bitCount_36 zk_b8 ?_
  refine zq_lushr d_JLong_bitCount_38 ?_
  refine zq_ladd d_JLong_bitCount_39 ?_
  refine zr_topl (fun y4 hy4 => ?_)
  have hJ := hJ y4 hy4
  refine zr_lstore_n (L' := [some (.long y4), none]) d_JLong_bitCount_40 rfl (Nat.le_of_ble_eq_true rfl) rfl ?_
  refine zq_lload_n d_JLong_bitCount_41 rfl rfl ?_
  refine zq_lload_n d_JLong_bitCount_42 rfl rfl ?_
  refine zq_bipush (v := 16) d_JLong_bitCount_43 zk_b16 ?_
  refine zq_lushr d_JLong_bitCount_45 ?_
  refine zq_ladd d_JLong_bitCount_46 ?_
  refine zr_topl (fun y5 hy5 => ?_)
  have hJ := hJ y5 hy5
  refine zr_lstore_n (L' := [some (.long y5), none]) d_JLong_bitCount_47 rfl (Nat.le_of_ble_eq_true rfl) rfl ?_
  refine zq_lload_n d_JLong_bitCount_48 rfl rfl ?_
  refine zq_lload_n d_JLong_bitCount_49 rfl rfl ?_
  refine zq_bipush (v := 32) d_JLong_bitCount_50 zk_b32 ?_
  refine zq_lushr d_JLong_bitCount_52 ?_
  refine zq_ladd d_JLong_bitCount_53 ?_
  refine zr_topl (fun y6 hy6 => ?_)
  have hJ := hJ y6 hy6
  refine zr_lstore_n (L' := [some (.long y6), none]) d_JLong_bitCount_54 rfl (Nat.le_of_ble_eq_true rfl) rfl ?_
  refine zq_lload_n d_JLong_bitCount_55 rfl rfl ?_
  refine zq_l2i d_JLong_bitCount_56 ?_
  refine zq_bipush (v := 127) d_JLong_bitCount_57 zk_b127 ?_
  refine zq_iand d_JLong_bitCount_59 ?_
  exact zq_iret d_JLong_bitCount_60 rfl rfl (Nat.le_refl _) (Nat.le_refl _) ⟨_, _, rfl, rfl, hJ⟩
set_option maxHeartbeats 400000 in
theorem s_Judge_yakuOfTriplets_L192 {g : zk_T} {a1 : Int64} {K : Int64 → zm → Prop} {t0 : Int32} {t1 : Int64} {m : zm} (hJ : j_Judge_yakuOfTriplets_L192 a1  K t0 t1 m) : zq_V (zk_g g) ("RiichiTable$Judge", prog_2_method_18_code, 7, (some .long), false, zq_rm 1 0 0) 0 0 192 [some (.ref 2), some (.long a1), none, none, none, none, none] [.int t0, .long t1] (zm_hp m) (zm_QL K) := by
  unfold j_Judge_yakuOfTriplets_L192 at hJ
  refine zq_bipush (v := 36) d_Judge_yakuOfTriplets_192 zk_b36 ?_
  refine zr_csL (as := [.int t0, .int 36]) (st := [.long t1]) d_Judge_yakuOfTriplets_194 cc_Judge_191 cs_Judge_bitIf (s_Judge_bitIf  hJ) rfl ⟨Nat.le_of_ble_eq_true rfl, Nat.le_of_ble_eq_true rfl⟩ (Nat.le_of_ble_eq_true rfl) ⟨Nat.le_refl _, Nat.le_refl _⟩ rfl (fun r35 m34 hJ => ?_)
  refine zq_lor d_Judge_yakuOfTriplets_197 ?_
  exact zq_lret d_Judge_yakuOfTriplets_198 rfl (Nat.le_refl _) (Nat.le_refl _) ⟨_, _, rfl, rfl, hJ⟩
set_option maxHeartbeats 400000 in
theorem s_Judge_yakuOfTriplets_L175 {g : zk_T} {a1 : Int64} {K : Int64 → zm → Prop} {x6 : Int32} {t0 : Int32} {t1 : Int64} {m : zm} (hJ : j_Judge_yakuOfTriplets_L175 a1  K x6 t0 t1 m) : zq_V (zk_g g) ("RiichiTable$Judge", prog_2_method_18_code, 7, (some .long), false, zq_rm 1 0 0) 0 0 175 [some (.ref 2), some (.long a1), none, none, none, none, some (.int x6)] [.int t0, .long t1] (zm_hp m) (zm_QL K) := by
  unfold j_Judge_yakuOfTriplets_L175 at hJ
  refine zq_bipush (v := 35) d_Judge_yakuOfTriplets_175 zk_b35 ?_
  refine zr_csL (as := [.int t0, .int 35]) (st := [.long t1]) d_Judge_yakuOfTriplets_177 cc_Judge_191 cs_Judge_bitIf (s_Judge_bitIf  hJ) rfl ⟨Nat.le_of_ble_eq_true rfl, Nat.le_of_ble_eq_true rfl⟩ (Nat.le_of_ble_eq_true rfl) ⟨Nat.le_refl _, Nat.le_refl _⟩ rfl (fun r33 m32 hJ => ?_)
  refine zq_lor d_Judge_yakuOfTriplets_180 ?_
  refine zq_iload d_Judge_yakuOfTriplets_181 rfl ?_
  refine zq_iconst (v := 4) d_Judge_yakuOfTriplets_183 zk_i4 ?_
  refine zq_icmp_ne (tgt := 191) d_Judge_yakuOfTriplets_184 (by decide) (fun c => ?_) (fun c => ?_)
  · have hJ := hJ.1 c
    refine zq_iconst (v := 0) d_Judge_yakuOfTriplets_191 zk_i0 ?_
    refine zr_less (L' := [some (.ref 2), some (.long a1), none, none, none, none, none]) ⟨rfl, ⟨rfl, trivial⟩⟩ ?_
    exact s_Judge_yakuOfTriplets_L192    hJ
  · have hJ := hJ.2 c
    refine zq_iconst (v := 1) d_Judge_yakuOfTriplets_187 zk_i1 ?_
    refine zq_goto (tgt := 192) d_Judge_yakuOfTriplets_188 (by decide) ?_
    refine zr_less (L' := [some (.ref 2), some (.long a1), none, none, none, none, none]) ⟨rfl, ⟨rfl, trivial⟩⟩ ?_
    exact s_Judge_yakuOfTriplets_L192    hJ
set_option maxHeartbeats 400000 in
theorem s_Judge_yakuOfTriplets_L174 {g : zk_T} {a1 : Int64} {K : Int64 → zm → Prop} {x6 : Int32} {t0 : Int64} {m : zm} (hJ : j_Judge_yakuOfTriplets_L174 a1  K x6 t0 m) : zq_V (zk_g g) ("RiichiTable$Judge", prog_2_method_18_code, 7, (some .long), false, zq_rm 1 0 0) 0 0 174 [some (.ref 2), some (.long a1), none, none, none, none, some (.int x6)] [.long t0] (zm_hp m) (zm_QL K) := by
  unfold j_Judge_yakuOfTriplets_L174 at hJ
  refine zq_iconst (v := 0) d_Judge_yakuOfTriplets_174 zk_i0 ?_
  refine zr_less (L' := [some (.ref 2), some (.long a1), none, none, none, none, some (.int x6)]) ⟨rfl, ⟨rfl, ⟨rfl, trivial⟩⟩⟩ ?_
  exact s_Judge_yakuOfTriplets_L175    hJ
set_option maxHeartbeats 400000 in
theorem s_Judge_yakuOfTriplets_L145 {g : zk_T} {a1 : Int64} {K : Int64 → zm → Prop} {x6 : Int32} {t0 : Int32} {t1 : Int64} {m : zm} (hJ : j_Judge_yakuOfTriplets_L145 a1  K x6 t0 t1 m) : zq_V (zk_g g) ("RiichiTable$Judge", prog_2_method_18_code, 7, (some .long), false, zq_rm 1 0 0) 0 0 145 [some (.ref 2), some (.long a1), none, none, none, none, some (.int x6)] [.int t0, .long t1] (zm_hp m) (zm_QL K) := by
  unfold j_Judge_yakuOfTriplets_L145 at hJ
  refine zq_bipush (v := 34) d_Judge_yakuOfTriplets_145 zk_b34 ?_
  refine zr_csL (as := [.int t0, .int 34]) (st := [.long t1]) d_Judge_yakuOfTriplets_147 cc_Judge_191 cs_Judge_bitIf (s_Judge_bitIf  hJ) rfl ⟨Nat.le_of_ble_eq_true rfl, Nat.le_of_ble_eq_true rfl⟩ (Nat.le_of_ble_eq_true rfl) ⟨Nat.le_refl _, Nat.le_refl _⟩ rfl (fun r29 m28 hJ => ?_)
  refine zq_lor d_Judge_yakuOfTriplets_150 ?_
  refine zq_iload d_Judge_yakuOfTriplets_151 rfl ?_
  refine zq_iconst (v := 3) d_Judge_yakuOfTriplets_153 zk_i3 ?_
  refine zq_icmp_ne (tgt := 174) d_Judge_yakuOfTriplets_154 (by decide) (fun c => ?_) (fun c => ?_)
  · have hJ := hJ.1 c
    refine zr_less (L' := [some (.ref 2), some (.long a1), none, none, none, none, some (.int x6)]) ⟨rfl, ⟨rfl, ⟨rfl, trivial⟩⟩⟩ ?_
    exact s_Judge_yakuOfTriplets_L174    hJ
  · have hJ := hJ.2 c
    refine zq_ldc2 (v := 2013265920) (zq_in (zq_c3 (List.mem_of_getElem? (i := 97) rfl)) rfl) d_Judge_yakuOfTriplets_157 ?_
    refine zq_aload_n d_Judge_yakuOfTriplets_160 rfl rfl ?_
    refine zm_getI fg_Judge_110 d_Judge_yakuOfTriplets_161 zs_Judge rfl ?_
    refine zr_csI (as := [.long 2013265920, .int (m28.1 2 3)]) (st := [.long (t1 ||| r29)]) d_Judge_yakuOfTriplets_164 cc_Judge_215 cs_Judge_has (s_Judge_has  hJ) rfl ⟨Nat.le_of_ble_eq_true rfl, Nat.le_of_ble_eq_true rfl⟩ (Nat.le_of_ble_eq_true rfl) ⟨Nat.le_refl _, Nat.le_refl _⟩ rfl (fun r31 m30 hJ => ?_)
    refine zq_if_eq (tgt := 174) d_Judge_yakuOfTriplets_167 (by decide) (fun c => ?_) (fun c => ?_)
    · have hJ := hJ.1 c
      refine zr_less (L' := [some (.ref 2), some (.long a1), none, none, none, none, some (.int x6)]) ⟨rfl, ⟨rfl, ⟨rfl, trivial⟩⟩⟩ ?_
      exact s_Judge_yakuOfTriplets_L174    hJ
    · have hJ := hJ.2 c
      refine zq_iconst (v := 1) d_Judge_yakuOfTriplets_170 zk_i1 ?_
      refine zq_goto (tgt := 175) d_Judge_yakuOfTriplets_171 (by decide) ?_
      refine zr_less (L' := [some (.ref 2), some (.long a1), none, none, none, none, some (.int x6)]) ⟨rfl, ⟨rfl, ⟨rfl, trivial⟩⟩⟩ ?_
      exact s_Judge_yakuOfTriplets_L175    hJ
set_option maxHeartbeats 400000 in
theorem s_Judge_yakuOfTriplets_L128 {g : zk_T} {a1 : Int64} {K : Int64 → zm → Prop} {x5 : Int32} {x6 : Int32} {t0 : Int32} {t1 : Int64} {m : zm} (hJ : j_Judge_yakuOfTriplets_L128 a1  K x5 x6 t0 t1 m) : zq_V (zk_g g) ("RiichiTable$Judge", prog_2_method_18_code, 7, (some .long), false, zq_rm 1 0 0) 0 0 128 [some (.ref 2), some (.long a1), none, none, none, some (.int x5), some (.int x6)] [.int t0, .long t1] (zm_hp m) (zm_QL K) := by
  unfold j_Judge_yakuOfTriplets_L128 at hJ
  refine zq_bipush (v := 23) d_Judge_yakuOfTriplets_128 zk_b23 ?_
  refine zr_csL (as := [.int t0, .int 23]) (st := [.long t1]) d_Judge_yakuOfTriplets_130 cc_Judge_191 cs_Judge_bitIf (s_Judge_bitIf  hJ) rfl ⟨Nat.le_of_ble_eq_true rfl, Nat.le_of_ble_eq_true rfl⟩ (Nat.le_of_ble_eq_true rfl) ⟨Nat.le_refl _, Nat.le_refl _⟩ rfl (fun r27 m26 hJ => ?_)
  refine zq_lor d_Judge_yakuOfTriplets_133 ?_
  refine zq_iload d_Judge_yakuOfTriplets_134 rfl ?_
  refine zq_iconst (v := 3) d_Judge_yakuOfTriplets_136 zk_i3 ?_
  refine zq_icmp_ne (tgt := 144) d_Judge_yakuOfTriplets_137 (by decide) (fun c => ?_) (fun c => ?_)
  · have hJ := hJ.1 c
    refine zq_iconst (v := 0) d_Judge_yakuOfTriplets_144 zk_i0 ?_
    refine zr_less (L' := [some (.ref 2), some (.long a1), none, none, none, none, some (.int x6)]) ⟨rfl, ⟨rfl, ⟨rfl, trivial⟩⟩⟩ ?_
    exact s_Judge_yakuOfTriplets_L145    hJ
  · have hJ := hJ.2 c
    refine zq_iconst (v := 1) d_Judge_yakuOfTriplets_140 zk_i1 ?_
    refine zq_goto (tgt := 145) d_Judge_yakuOfTriplets_141 (by decide) ?_
    refine zr_less (L' := [some (.ref 2), some (.long a1), none, none, none, none, some (.int x6)]) ⟨rfl, ⟨rfl, ⟨rfl, trivial⟩⟩⟩ ?_
    exact s_Judge_yakuOfTriplets_L145    hJ
set_option maxHeartbeats 400000 in
theorem s_Judge_yakuOfTriplets_L127 {g : zk_T} {a1 : Int64} {K : Int64 → zm → Prop} {x5 : Int32} {x6 : Int32} {t0 : Int64} {m : zm} (hJ : j_Judge_yakuOfTriplets_L127 a1  K x5 x6 t0 m) : zq_V (zk_g g) ("RiichiTable$Judge", prog_2_method_18_code, 7, (some .long), false, zq_rm 1 0 0) 0 0 127 [some (.ref 2), some (.long a1), none, none, none, some (.int x5), some (.int x6)] [.long t0] (zm_hp m) (zm_QL K) := by
  unfold j_Judge_yakuOfTriplets_L127 at hJ
  refine zq_iconst (v := 0) d_Judge_yakuOfTriplets_127 zk_i0 ?_
  refine zr_less (L' := [some (.ref 2), some (.long a1), none, none, none, some (.int x5), some (.int x6)]) ⟨rfl, ⟨rfl, ⟨rfl, ⟨rfl, trivial⟩⟩⟩⟩ ?_
  exact s_Judge_yakuOfTriplets_L128    hJ
set_option maxHeartbeats 400000 in
theorem s_Judge_yakuOfTriplets_L98 {g : zk_T} {a1 : Int64} {K : Int64 → zm → Prop} {x5 : Int32} {x6 : Int32} {t0 : Int32} {t1 : Int64} {m : zm} (hJ : j_Judge_yakuOfTriplets_L98 a1  K x5 x6 t0 t1 m) : zq_V (zk_g g) ("RiichiTable$Judge", prog_2_method_18_code, 7, (some .long), false, zq_rm 1 0 0) 0 0 98 [some (.ref 2), some (.long a1), none, none, none, some (.int x5), some (.int x6)] [.int t0, .long t1] (zm_hp m) (zm_QL K) := by
  unfold j_Judge_yakuOfTriplets_L98 at hJ
  refine zq_bipush (v := 22) d_Judge_yakuOfTriplets_98 zk_b22 ?_
  refine zr_csL (as := [.int t0, .int 22]) (st := [.long t1]) d_Judge_yakuOfTriplets_100 cc_Judge_191 cs_Judge_bitIf (s_Judge_bitIf  hJ) rfl ⟨Nat.le_of_ble_eq_true rfl, Nat.le_of_ble_eq_true rfl⟩ (Nat.le_of_ble_eq_true rfl) ⟨Nat.le_refl _, Nat.le_refl _⟩ rfl (fun r23 m22 hJ => ?_)
  refine zq_lor d_Judge_yakuOfTriplets_103 ?_
  refine zq_iload d_Judge_yakuOfTriplets_104 rfl ?_
  refine zq_iconst (v := 2) d_Judge_yakuOfTriplets_106 zk_i2 ?_
  refine zq_icmp_ne (tgt := 127) d_Judge_yakuOfTriplets_107 (by decide) (fun c => ?_) (fun c => ?_)
  · have hJ := hJ.1 c
    refine zr_less (L' := [some (.ref 2), some (.long a1), none, none, none, some (.int x5), some (.int x6)]) ⟨rfl, ⟨rfl, ⟨rfl, ⟨rfl, trivial⟩⟩⟩⟩ ?_
    exact s_Judge_yakuOfTriplets_L127    hJ
  · have hJ := hJ.2 c
    refine zq_ldc2 (v := 15032385536) (zq_in (zq_c3 (List.mem_of_getElem? (i := 90) rfl)) rfl) d_Judge_yakuOfTriplets_110 ?_
    refine zq_aload_n d_Judge_yakuOfTriplets_113 rfl rfl ?_
    refine zm_getI fg_Judge_110 d_Judge_yakuOfTriplets_114 zs_Judge rfl ?_
    refine zr_csI (as := [.long 15032385536, .int (m22.1 2 3)]) (st := [.long (t1 ||| r23)]) d_Judge_yakuOfTriplets_117 cc_Judge_215 cs_Judge_has (s_Judge_has  hJ) rfl ⟨Nat.le_of_ble_eq_true rfl, Nat.le_of_ble_eq_true rfl⟩ (Nat.le_of_ble_eq_true rfl) ⟨Nat.le_refl _, Nat.le_refl _⟩ rfl (fun r25 m24 hJ => ?_)
    refine zq_if_eq (tgt := 127) d_Judge_yakuOfTriplets_120 (by decide) (fun c => ?_) (fun c => ?_)
    · have hJ := hJ.1 c
      refine zr_less (L' := [some (.ref 2), some (.long a1), none, none, none, some (.int x5), some (.int x6)]) ⟨rfl, ⟨rfl, ⟨rfl, ⟨rfl, trivial⟩⟩⟩⟩ ?_
      exact s_Judge_yakuOfTriplets_L127    hJ
    · have hJ := hJ.2 c
      refine zq_iconst (v := 1) d_Judge_yakuOfTriplets_123 zk_i1 ?_
      refine zq_goto (tgt := 128) d_Judge_yakuOfTriplets_124 (by decide) ?_
      refine zr_less (L' := [some (.ref 2), some (.long a1), none, none, none, some (.int x5), some (.int x6)]) ⟨rfl, ⟨rfl, ⟨rfl, ⟨rfl, trivial⟩⟩⟩⟩ ?_
      exact s_Judge_yakuOfTriplets_L128    hJ
set_option maxHeartbeats 400000 in
theorem s_Judge_yakuOfTriplets_L31 {g : zk_T} {a1 : Int64} {K : Int64 → zm → Prop} : ∀ (n : Nat) {x3 : Int64} {x5 : Int32} {m : zm}, j_Judge_yakuOfTriplets_L31 a1  K n x3 x5 m → zq_V (zk_g g) ("RiichiTable$Judge", prog_2_method_18_code, 7, (some .long), false, zq_rm 1 0 0) 0 0 31 [some (.ref 2), some (.long a1), none, some (.long x3), none, some (.int x5), none] [] (zm_hp m) (zm_QL K) := by
  intro n
  induction n with
  | zero =>
    intro x3 x5 m hJ
    exact False.elim hJ
  | succ n ih =>
    intro x3 x5 m hJ
    rw [j_Judge_yakuOfTriplets_L31] at hJ
    refine zq_iload d_Judge_yakuOfTriplets_31 rfl ?_
    refine zq_iconst (v := 3) d_Judge_yakuOfTriplets_33 zk_i3 ?_
    refine zq_icmp_ge (tgt := 63) d_Judge_yakuOfTriplets_34 (by decide) (fun c => ?_) (fun c => ?_)
    · have hJ := hJ.1 c
      refine zq_lload_n d_Judge_yakuOfTriplets_63 rfl rfl ?_
      refine zq_ldc2 (v := 15032385536) (zq_in (zq_c3 (List.mem_of_getElem? (i := 90) rfl)) rfl) d_Judge_yakuOfTriplets_64 ?_
      refine zq_land d_Judge_yakuOfTriplets_67 ?_
      refine zr_csI (as := [.long (a1 &&& 15032385536)]) (st := []) d_Judge_yakuOfTriplets_68 cc_Judge_221 cs_JLong_bitCount (s_JLong_bitCount  hJ) rfl ⟨Nat.le_of_ble_eq_true rfl, Nat.le_of_ble_eq_true rfl⟩ (Nat.le_of_ble_eq_true rfl) ⟨Nat.le_refl _, Nat.le_refl _⟩ rfl (fun r11 m10 hJ => ?_)
      refine zr_istore (L' := [some (.ref 2), some (.long a1), none, some (.long x3), none, some (.int r11), none]) d_Judge_yakuOfTriplets_71 (Nat.le_of_ble_eq_true rfl) rfl ?_
      refine zq_lload_n d_Judge_yakuOfTriplets_73 rfl rfl ?_
      refine zq_ldc2 (v := 2013265920) (zq_in (zq_c3 (List.mem_of_getElem? (i := 97) rfl)) rfl) d_Judge_yakuOfTriplets_74 ?_
      refine zq_land d_Judge_yakuOfTriplets_77 ?_
      refine zr_csI (as := [.long (a1 &&& 2013265920)]) (st := []) d_Judge_yakuOfTriplets_78 cc_Judge_221 cs_JLong_bitCount (s_JLong_bitCount  hJ) rfl ⟨Nat.le_of_ble_eq_true rfl, Nat.le_of_ble_eq_true rfl⟩ (Nat.le_of_ble_eq_true rfl) ⟨Nat.le_refl _, Nat.le_refl _⟩ rfl (fun r13 m12 hJ => ?_)
      refine zr_istore (L' := [some (.ref 2), some (.long a1), none, some (.long x3), none, some (.int r11), some (.int r13)]) d_Judge_yakuOfTriplets_81 (Nat.le_of_ble_eq_true rfl) rfl ?_
      refine zq_lload_n d_Judge_yakuOfTriplets_83 rfl rfl ?_
      refine zq_lload_n d_Judge_yakuOfTriplets_84 rfl rfl ?_
      refine zr_csL (as := [.long a1]) (st := [.long x3]) d_Judge_yakuOfTriplets_85 cc_Judge_188 cs_Judge_inAllSuits (s_Judge_inAllSuits  hJ) rfl ⟨Nat.le_of_ble_eq_true rfl, Nat.le_of_ble_eq_true rfl⟩ (Nat.le_of_ble_eq_true rfl) ⟨Nat.le_refl _, Nat.le_refl _⟩ rfl (fun r15 m14 hJ => ?_)
      refine zq_lconst (v := 0) d_Judge_yakuOfTriplets_88 zk_l0 ?_
      refine zq_lcmp d_Judge_yakuOfTriplets_89 ?_
      refine zq_if_eq (tgt := 97) d_Judge_yakuOfTriplets_90 (by decide) (fun c => ?_) (fun c => ?_)
      · have hJ := hJ.1 c
        refine zq_iconst (v := 0) d_Judge_yakuOfTriplets_97 zk_i0 ?_
        refine zr_less (L' := [some (.ref 2), some (.long a1), none, none, none, some (.int r11), some (.int r13)]) ⟨rfl, ⟨rfl, ⟨rfl, ⟨rfl, trivial⟩⟩⟩⟩ ?_
        exact s_Judge_yakuOfTriplets_L98    hJ
      · have hJ := hJ.2 c
        refine zq_iconst (v := 1) d_Judge_yakuOfTriplets_93 zk_i1 ?_
        refine zq_goto (tgt := 98) d_Judge_yakuOfTriplets_94 (by decide) ?_
        refine zr_less (L' := [some (.ref 2), some (.long a1), none, none, none, some (.int r11), some (.int r13)]) ⟨rfl, ⟨rfl, ⟨rfl, ⟨rfl, trivial⟩⟩⟩⟩ ?_
        exact s_Judge_yakuOfTriplets_L98    hJ
    · have hJ := hJ.2 c
      refine zq_lload_n d_Judge_yakuOfTriplets_37 rfl rfl ?_
      refine zq_lload_n d_Judge_yakuOfTriplets_38 rfl rfl ?_
      refine zq_bipush (v := 31) d_Judge_yakuOfTriplets_39 zk_b31 ?_
      refine zq_iload d_Judge_yakuOfTriplets_41 rfl ?_
      refine zq_iadd d_Judge_yakuOfTriplets_43 ?_
      refine zr_csI (as := [.long a1, .int (31 + x5)]) (st := [.long x3]) d_Judge_yakuOfTriplets_44 cc_Judge_215 cs_Judge_has (s_Judge_has  hJ) rfl ⟨Nat.le_of_ble_eq_true rfl, Nat.le_of_ble_eq_true rfl⟩ (Nat.le_of_ble_eq_true rfl) ⟨Nat.le_refl _, Nat.le_refl _⟩ rfl (fun r17 m16 hJ => ?_)
      refine zq_bipush (v := 12) d_Judge_yakuOfTriplets_47 zk_b12 ?_
      refine zq_iload d_Judge_yakuOfTriplets_49 rfl ?_
      refine zq_iadd d_Judge_yakuOfTriplets_51 ?_
      refine zr_csL (as := [.int r17, .int (12 + x5)]) (st := [.long x3]) d_Judge_yakuOfTriplets_52 cc_Judge_191 cs_Judge_bitIf (s_Judge_bitIf  hJ) rfl ⟨Nat.le_of_ble_eq_true rfl, Nat.le_of_ble_eq_true rfl⟩ (Nat.le_of_ble_eq_true rfl) ⟨Nat.le_refl _, Nat.le_refl _⟩ rfl (fun r19 m18 hJ => ?_)
      refine zq_lor d_Judge_yakuOfTriplets_55 ?_
      refine zr_topl (fun y20 hy20 => ?_)
      have hJ := hJ y20 hy20
      refine zr_lstore_n (L' := [some (.ref 2), some (.long a1), none, some (.long y20), none, some (.int x5), none]) d_Judge_yakuOfTriplets_56 rfl (Nat.le_of_ble_eq_true rfl) rfl ?_
      refine zr_iinc (d' := 1) d_Judge_yakuOfTriplets_57 zk_i1 rfl (Nat.le_of_ble_eq_true rfl) (fun y21 hy21 => ?_)
      have hJ := hJ y21 hy21
      refine zr_L (L' := [some (.ref 2), some (.long a1), none, some (.long y20), none, some (.int y21), none]) rfl ?_
      refine zq_goto (tgt := 31) d_Judge_yakuOfTriplets_60 (by decide) ?_
      refine zr_less (L' := [some (.ref 2), some (.long a1), none, some (.long y20), none, some (.int y21), none]) ⟨rfl, ⟨rfl, ⟨rfl, ⟨rfl, trivial⟩⟩⟩⟩ ?_
      exact ih  hJ
set_option maxHeartbeats 400000 in
theorem s_Judge_yakuOfTriplets {g : zk_T} {a1 : Int64} {K : Int64 → zm → Prop} {m : zm} (hJ : j_Judge_yakuOfTriplets a1 m K) : zq_Mt (zk_g g) y_Judge_yakuOfTriplets 1 0 0 [.ref 2, .long a1] (zm_hp m) (zm_QL K) := by
  unfold j_Judge_yakuOfTriplets at hJ
  refine zq_meth (ini := false) rfl (fun h => by cases h) (Nat.le_of_ble_eq_true rfl) ?_
  refine zr_L (F := ("RiichiTable$Judge", prog_2_method_18_code, 7, (some .long), false, zq_rm 1 0 0)) (L' := [some (.ref 2), some (.long a1), none, none, none, none, none]) rfl ?_
  refine zq_lload_n d_Judge_yakuOfTriplets_0 rfl rfl ?_
  refine zq_aload_n d_Judge_yakuOfTriplets_1 rfl rfl ?_
  refine zm_getI fg_Judge_205 d_Judge_yakuOfTriplets_2 zs_Judge rfl ?_
  refine zr_csI (as := [.long a1, .int (m.1 2 9)]) (st := []) d_Judge_yakuOfTriplets_5 cc_Judge_215 cs_Judge_has (s_Judge_has  hJ) rfl ⟨Nat.le_of_ble_eq_true rfl, Nat.le_of_ble_eq_true rfl⟩ (Nat.le_of_ble_eq_true rfl) ⟨Nat.le_refl _, Nat.le_refl _⟩ rfl (fun r2 m1 hJ => ?_)
  refine zq_bipush (v := 10) d_Judge_yakuOfTriplets_8 zk_b10 ?_
  refine zr_csL (as := [.int r2, .int 10]) (st := []) d_Judge_yakuOfTriplets_10 cc_Judge_191 cs_Judge_bitIf (s_Judge_bitIf  hJ) rfl ⟨Nat.le_of_ble_eq_true rfl, Nat.le_of_ble_eq_true rfl⟩ (Nat.le_of_ble_eq_true rfl) ⟨Nat.le_refl _, Nat.le_refl _⟩ rfl (fun r4 m3 hJ => ?_)
  refine zq_lload_n d_Judge_yakuOfTriplets_13 rfl rfl ?_
  refine zq_aload_n d_Judge_yakuOfTriplets_14 rfl rfl ?_
  refine zm_getI fg_Judge_208 d_Judge_yakuOfTriplets_15 zs_Judge rfl ?_
  refine zr_csI (as := [.long a1, .int (m3.1 2 10)]) (st := [.long r4]) d_Judge_yakuOfTriplets_18 cc_Judge_215 cs_Judge_has (s_Judge_has  hJ) rfl ⟨Nat.le_of_ble_eq_true rfl, Nat.le_of_ble_eq_true rfl⟩ (Nat.le_of_ble_eq_true rfl) ⟨Nat.le_refl _, Nat.le_refl _⟩ rfl (fun r6 m5 hJ => ?_)
  refine zq_bipush (v := 11) d_Judge_yakuOfTriplets_21 zk_b11 ?_
  refine zr_csL (as := [.int r6, .int 11]) (st := [.long r4]) d_Judge_yakuOfTriplets_23 cc_Judge_191 cs_Judge_bitIf (s_Judge_bitIf  hJ) rfl ⟨Nat.le_of_ble_eq_true rfl, Nat.le_of_ble_eq_true rfl⟩ (Nat.le_of_ble_eq_true rfl) ⟨Nat.le_refl _, Nat.le_refl _⟩ rfl (fun r8 m7 hJ => ?_)
  refine zq_lor d_Judge_yakuOfTriplets_26 ?_
  refine zr_topl (fun y9 hy9 => ?_)
  have hJ := hJ y9 hy9
  refine zr_lstore_n (L' := [some (.ref 2), some (.long a1), none, some (.long y9), none, none, none]) d_Judge_yakuOfTriplets_27 rfl (Nat.le_of_ble_eq_true rfl) rfl ?_
  refine zq_iconst (v := 0) d_Judge_yakuOfTriplets_28 zk_i0 ?_
  refine zr_istore (L' := [some (.ref 2), some (.long a1), none, some (.long y9), none, some (.int 0), none]) d_Judge_yakuOfTriplets_29 (Nat.le_of_ble_eq_true rfl) rfl ?_
  refine zr_less (L' := [some (.ref 2), some (.long a1), none, some (.long y9), none, some (.int 0), none]) ⟨rfl, ⟨rfl, ⟨rfl, ⟨rfl, trivial⟩⟩⟩⟩ ?_
  obtain ⟨n31, hJ⟩ := hJ
  exact s_Judge_yakuOfTriplets_L31   n31  hJ
set_option maxHeartbeats 400000 in
theorem s_Judge_rateSets_L97 {g : zk_T} {a1 : Int64} {K : zm → Prop} {t0 : Int32} {t1 : Int64} {m : zm} (hJ : j_Judge_rateSets_L97 a1  K t0 t1 m) : zq_V (zk_g g) ("RiichiTable$Judge", prog_2_method_5_code, 10, none, false, zq_rm 3 0 0) 0 0 97 [some (.ref 2), some (.long a1), none, none, none, none, none, none, none, none] [.int t0, .long t1, .ref 2] (zm_hp m) (zm_QV K) := by
  unfold j_Judge_rateSets_L97 at hJ
  refine zr_cvV (q := 2) (as := [.long t1, .int t0]) (st := []) d_Judge_rateSets_97 cc_Judge_88 cv_Judge_rate zs_Judge (s_Judge_rate  hJ) rfl ⟨Nat.le_of_ble_eq_true rfl, Nat.le_of_ble_eq_true rfl⟩ (Nat.le_of_ble_eq_true rfl) ⟨Nat.le_refl _, Nat.le_refl _⟩ rfl (fun m14 hJ => ?_)
  exact zq_vret d_Judge_rateSets_100 rfl (Nat.le_refl _) (Nat.le_refl _) ⟨_, rfl, rfl, hJ⟩
set_option maxHeartbeats 400000 in
theorem s_Judge_rateSets_L93 {g : zk_T} {a1 : Int64} {K : zm → Prop} {t0 : Int64} {m : zm} (hJ : j_Judge_rateSets_L93 a1  K t0 m) : zq_V (zk_g g) ("RiichiTable$Judge", prog_2_method_5_code, 10, none, false, zq_rm 3 0 0) 0 0 93 [some (.ref 2), some (.long a1), none, none, none, none, none, none, none, none] [.long t0, .ref 2] (zm_hp m) (zm_QV K) := by
  unfold j_Judge_rateSets_L93 at hJ
  refine zq_aload_n d_Judge_rateSets_93 rfl rfl ?_
  refine zr_cvI (q := 2) (as := []) (st := [.long t0, .ref 2]) d_Judge_rateSets_94 cc_Judge_142 cv_Judge_countFu zs_Judge (s_Judge_countFu  hJ) rfl ⟨Nat.le_of_ble_eq_true rfl, Nat.le_of_ble_eq_true rfl⟩ (Nat.le_of_ble_eq_true rfl) ⟨Nat.le_refl _, Nat.le_refl _⟩ rfl (fun r16 m15 hJ => ?_)
  refine zr_less (L' := [some (.ref 2), some (.long a1), none, none, none, none, none, none, none, none]) ⟨rfl, ⟨rfl, trivial⟩⟩ ?_
  exact s_Judge_rateSets_L97    hJ
set_option maxHeartbeats 400000 in
theorem s_Judge_rateSets_L71 {g : zk_T} {a1 : Int64} {K : zm → Prop} {x7 : Int64} {t0 : Int32} {m : zm} (hJ : j_Judge_rateSets_L71 a1  K x7 t0 m) : zq_V (zk_g g) ("RiichiTable$Judge", prog_2_method_5_code, 10, none, false, zq_rm 3 0 0) 0 0 71 [some (.ref 2), some (.long a1), none, none, none, none, none, some (.long x7), none, none] [.int t0] (zm_hp m) (zm_QV K) := by
  unfold j_Judge_rateSets_L71 at hJ
  refine zr_istore (L' := [some (.ref 2), some (.long a1), none, none, none, none, none, some (.long x7), none, some (.int t0)]) d_Judge_rateSets_71 (Nat.le_of_ble_eq_true rfl) rfl ?_
  refine zq_aload_n d_Judge_rateSets_73 rfl rfl ?_
  refine zq_lload d_Judge_rateSets_74 rfl ?_
  refine zq_iload d_Judge_rateSets_76 rfl ?_
  refine zq_if_eq (tgt := 93) d_Judge_rateSets_78 (by decide) (fun c => ?_) (fun c => ?_)
  · have hJ := hJ.1 c
    refine zr_less (L' := [some (.ref 2), some (.long a1), none, none, none, none, none, none, none, none]) ⟨rfl, ⟨rfl, trivial⟩⟩ ?_
    exact s_Judge_rateSets_L93    hJ
  · have hJ := hJ.2 c
    refine zq_aload_n d_Judge_rateSets_81 rfl rfl ?_
    refine zm_getI fg_Judge_39 d_Judge_rateSets_82 zs_Judge rfl ?_
    refine zq_if_eq (tgt := 93) d_Judge_rateSets_85 (by decide) (fun c => ?_) (fun c => ?_)
    · have hJ := hJ.1 c
      refine zr_less (L' := [some (.ref 2), some (.long a1), none, none, none, none, none, none, none, none]) ⟨rfl, ⟨rfl, trivial⟩⟩ ?_
      exact s_Judge_rateSets_L93    hJ
    · have hJ := hJ.2 c
      refine zq_bipush (v := 20) d_Judge_rateSets_88 zk_b20 ?_
      refine zq_goto (tgt := 97) d_Judge_rateSets_90 (by decide) ?_
      refine zr_less (L' := [some (.ref 2), some (.long a1), none, none, none, none, none, none, none, none]) ⟨rfl, ⟨rfl, trivial⟩⟩ ?_
      exact s_Judge_rateSets_L97    hJ
set_option maxHeartbeats 400000 in
theorem s_Judge_rateSets_L70 {g : zk_T} {a1 : Int64} {K : zm → Prop} {x7 : Int64} {m : zm} (hJ : j_Judge_rateSets_L70 a1  K x7 m) : zq_V (zk_g g) ("RiichiTable$Judge", prog_2_method_5_code, 10, none, false, zq_rm 3 0 0) 0 0 70 [some (.ref 2), some (.long a1), none, none, none, none, none, some (.long x7), none, none] [] (zm_hp m) (zm_QV K) := by
  unfold j_Judge_rateSets_L70 at hJ
  refine zq_iconst (v := 0) d_Judge_rateSets_70 zk_i0 ?_
  refine zr_less (L' := [some (.ref 2), some (.long a1), none, none, none, none, none, some (.long x7), none, none]) ⟨rfl, ⟨rfl, ⟨rfl, trivial⟩⟩⟩ ?_
  exact s_Judge_rateSets_L71    hJ
set_option maxHeartbeats 400000 in
theorem s_Judge_rateSets {g : zk_T} {a1 : Int64} {K : zm → Prop} {m : zm} (hJ : j_Judge_rateSets a1 m K) : zq_Mt (zk_g g) y_Judge_rateSets 3 0 0 [.ref 2, .long a1] (zm_hp m) (zm_QV K) := by
  unfold j_Judge_rateSets at hJ
  refine zq_meth (ini := false) rfl (fun h => by cases h) (Nat.le_of_ble_eq_true rfl) ?_
  refine zr_L (F := ("RiichiTable$Judge", prog_2_method_5_code, 10, none, false, zq_rm 3 0 0)) (L' := [some (.ref 2), some (.long a1), none, none, none, none, none, none, none, none]) rfl ?_
  refine zq_aload_n d_Judge_rateSets_0 rfl rfl ?_
  refine zq_iconst (v := 1) d_Judge_rateSets_1 zk_i1 ?_
  refine zr_cvL (q := 2) (as := [.int 1]) (st := []) d_Judge_rateSets_2 cc_Judge_123 cv_Judge_kindsOfSets zs_Judge (s_Judge_kindsOfSets  hJ) rfl ⟨Nat.le_of_ble_eq_true rfl, Nat.le_of_ble_eq_true rfl⟩ (Nat.le_of_ble_eq_true rfl) ⟨Nat.le_refl _, Nat.le_refl _⟩ rfl (fun r2 m1 hJ => ?_)
  refine zr_lstore_n (L' := [some (.ref 2), some (.long a1), none, some (.long r2), none, none, none, none, none, none]) d_Judge_rateSets_5 rfl (Nat.le_of_ble_eq_true rfl) rfl ?_
  refine zq_aload_n d_Judge_rateSets_6 rfl rfl ?_
  refine zq_iconst (v := 0) d_Judge_rateSets_7 zk_i0 ?_
  refine zr_cvL (q := 2) (as := [.int 0]) (st := []) d_Judge_rateSets_8 cc_Judge_123 cv_Judge_kindsOfSets zs_Judge (s_Judge_kindsOfSets  hJ) rfl ⟨Nat.le_of_ble_eq_true rfl, Nat.le_of_ble_eq_true rfl⟩ (Nat.le_of_ble_eq_true rfl) ⟨Nat.le_refl _, Nat.le_refl _⟩ rfl (fun r4 m3 hJ => ?_)
  refine zr_lstore (L' := [some (.ref 2), some (.long a1), none, some (.long r2), none, some (.long r4), none, none, none, none]) d_Judge_rateSets_11 (Nat.le_of_ble_eq_true rfl) rfl ?_
  refine zq_aload_n d_Judge_rateSets_13 rfl rfl ?_
  refine zm_getL fg_Judge_83 d_Judge_rateSets_14 zs_Judge rfl ?_
  refine zq_lload_n d_Judge_rateSets_17 rfl rfl ?_
  refine zq_lor d_Judge_rateSets_18 ?_
  refine zq_aload_n d_Judge_rateSets_19 rfl rfl ?_
  refine zq_lload_n d_Judge_rateSets_20 rfl rfl ?_
  refine zr_cvL (q := 2) (as := [.long r2]) (st := [.long ((m3.2 2 11) ||| a1)]) d_Judge_rateSets_21 cc_Judge_127 cv_Judge_yakuOfRuns zs_Judge (s_Judge_yakuOfRuns  hJ) rfl ⟨Nat.le_of_ble_eq_true rfl, Nat.le_of_ble_eq_true rfl⟩ (Nat.le_of_ble_eq_true rfl) ⟨Nat.le_refl _, Nat.le_refl _⟩ rfl (fun r6 m5 hJ => ?_)
  refine zq_lor d_Judge_rateSets_24 ?_
  refine zq_aload_n d_Judge_rateSets_25 rfl rfl ?_
  refine zq_lload_n d_Judge_rateSets_26 rfl rfl ?_
  refine zr_cvL (q := 2) (as := [.long r2]) (st := [.long (((m3.2 2 11) ||| a1) ||| r6)]) d_Judge_rateSets_27 cc_Judge_131 cv_Judge_yakuOfEnds zs_Judge (s_Judge_yakuOfEnds  hJ) rfl ⟨Nat.le_of_ble_eq_true rfl, Nat.le_of_ble_eq_true rfl⟩ (Nat.le_of_ble_eq_true rfl) ⟨Nat.le_refl _, Nat.le_refl _⟩ rfl (fun r8 m7 hJ => ?_)
  refine zq_lor d_Judge_rateSets_30 ?_
  refine zq_aload_n d_Judge_rateSets_31 rfl rfl ?_
  refine zq_lload d_Judge_rateSets_32 rfl ?_
  refine zr_cvL (q := 2) (as := [.long r4]) (st := [.long ((((m3.2 2 11) ||| a1) ||| r6) ||| r8)]) d_Judge_rateSets_34 cc_Judge_134 cv_Judge_yakuOfTriplets zs_Judge (s_Judge_yakuOfTriplets  hJ) rfl ⟨Nat.le_of_ble_eq_true rfl, Nat.le_of_ble_eq_true rfl⟩ (Nat.le_of_ble_eq_true rfl) ⟨Nat.le_refl _, Nat.le_refl _⟩ rfl (fun r10 m9 hJ => ?_)
  refine zq_lor d_Judge_rateSets_37 ?_
  refine zq_aload_n d_Judge_rateSets_38 rfl rfl ?_
  refine zr_cvL (q := 2) (as := []) (st := [.long (((((m3.2 2 11) ||| a1) ||| r6) ||| r8) ||| r10)]) d_Judge_rateSets_39 cc_Judge_137 cv_Judge_yakuOfTripletSorts zs_Judge (s_Judge_yakuOfTripletSorts  hJ) rfl ⟨Nat.le_of_ble_eq_true rfl, Nat.le_of_ble_eq_true rfl⟩ (Nat.le_of_ble_eq_true rfl) ⟨Nat.le_refl _, Nat.le_refl _⟩ rfl (fun r12 m11 hJ => ?_)
  refine zq_lor d_Judge_rateSets_42 ?_
  refine zr_topl (fun y13 hy13 => ?_)
  have hJ := hJ y13 hy13
  refine zr_lstore (L' := [some (.ref 2), some (.long a1), none, some (.long r2), none, some (.long r4), none, some (.long y13), none, none]) d_Judge_rateSets_43 (Nat.le_of_ble_eq_true rfl) rfl ?_
  refine zq_lload d_Judge_rateSets_45 rfl ?_
  refine zq_ldc2 (v := 256) (zq_in (zq_c3 (List.mem_of_getElem? (i := 106) rfl)) rfl) d_Judge_rateSets_47 ?_
  refine zq_land d_Judge_rateSets_50 ?_
  refine zq_lconst (v := 0) d_Judge_rateSets_51 zk_l0 ?_
  refine zq_lcmp d_Judge_rateSets_52 ?_
  refine zq_if_eq (tgt := 70) d_Judge_rateSets_53 (by decide) (fun c => ?_) (fun c => ?_)
  · have hJ := hJ.1 c
    refine zr_less (L' := [some (.ref 2), some (.long a1), none, none, none, none, none, some (.long y13), none, none]) ⟨rfl, ⟨rfl, ⟨rfl, trivial⟩⟩⟩ ?_
    exact s_Judge_rateSets_L70    hJ
  · have hJ := hJ.2 c
    refine zq_lload d_Judge_rateSets_56 rfl ?_
    refine zq_bipush (v := 30) d_Judge_rateSets_58 zk_b30 ?_
    refine zq_lshr d_Judge_rateSets_60 ?_
    refine zq_lconst (v := 0) d_Judge_rateSets_61 zk_l0 ?_
    refine zq_lcmp d_Judge_rateSets_62 ?_
    refine zq_if_ne (tgt := 70) d_Judge_rateSets_63 (by decide) (fun c => ?_) (fun c => ?_)
    · have hJ := hJ.1 c
      refine zr_less (L' := [some (.ref 2), some (.long a1), none, none, none, none, none, some (.long y13), none, none]) ⟨rfl, ⟨rfl, ⟨rfl, trivial⟩⟩⟩ ?_
      exact s_Judge_rateSets_L70    hJ
    · have hJ := hJ.2 c
      refine zq_iconst (v := 1) d_Judge_rateSets_66 zk_i1 ?_
      refine zq_goto (tgt := 71) d_Judge_rateSets_67 (by decide) ?_
      refine zr_less (L' := [some (.ref 2), some (.long a1), none, none, none, none, none, some (.long y13), none, none]) ⟨rfl, ⟨rfl, ⟨rfl, trivial⟩⟩⟩ ?_
      exact s_Judge_rateSets_L71    hJ
set_option maxHeartbeats 400000 in
theorem s_Judge_hasNineGates_L33 {g : zk_T} {a1 : Int32} {R11 : Int32 → zm → Prop} {K : Int32 → zm → Prop} (hR11 : ∀ {x2 : Int32} {m : zm}, R11 x2 m → zq_V (zk_g g) ("RiichiTable$Judge", prog_2_method_23_code, 4, (some .boolean), false, zq_rm 0 0 0) 0 0 11 [some (.ref 2), some (.int a1), some (.int x2), none] [] (zm_hp m) (zm_QI K)) {x2 : Int32} {t0 : Int32} {m : zm} (hJ : j_Judge_hasNineGates_L33 a1 R11 K x2 t0 m) : zq_V (zk_g g) ("RiichiTable$Judge", prog_2_method_23_code, 4, (some .boolean), false, zq_rm 0 0 0) 0 0 33 [some (.ref 2), some (.int a1), some (.int x2), none] [.int t0] (zm_hp m) (zm_QI K) := by
  unfold j_Judge_hasNineGates_L33 at hJ
  refine zr_istore_n (L' := [some (.ref 2), some (.int a1), some (.int x2), some (.int t0)]) d_Judge_hasNineGates_33 rfl (Nat.le_of_ble_eq_true rfl) rfl ?_
  refine zq_aload_n d_Judge_hasNineGates_34 rfl rfl ?_
  refine zm_getR fg_Judge_18 d_Judge_hasNineGates_35 zs_Judge rfl ?_
  refine zq_iload_n d_Judge_hasNineGates_38 rfl rfl ?_
  refine zq_iload_n d_Judge_hasNineGates_39 rfl rfl ?_
  refine zq_iadd d_Judge_hasNineGates_40 ?_
  refine zq_iconst (v := 1) d_Judge_hasNineGates_41 zk_i1 ?_
  refine zq_isub d_Judge_hasNineGates_42 ?_
  obtain ⟨hb, hJ⟩ := hJ
  refine zm_ald d_Judge_hasNineGates_43 (rfl : zm_sh[7]? = some (.inl (0, 34, .inl (fun _ => 0)))) hb ?_
  refine zq_iload_n d_Judge_hasNineGates_44 rfl rfl ?_
  refine zq_icmp_ge (tgt := 50) d_Judge_hasNineGates_45 (by decide) (fun c => ?_) (fun c => ?_)
  · have hJ := hJ.1 c
    refine zr_iinc (d' := 1) d_Judge_hasNineGates_50 zk_i1 rfl (Nat.le_of_ble_eq_true rfl) (fun y1 hy1 => ?_)
    have hJ := hJ y1 hy1
    refine zr_L (L' := [some (.ref 2), some (.int a1), some (.int y1), some (.int t0)]) rfl ?_
    refine zq_goto (tgt := 11) d_Judge_hasNineGates_53 (by decide) ?_
    refine zr_less (L' := [some (.ref 2), some (.int a1), some (.int y1), none]) ⟨rfl, ⟨rfl, ⟨rfl, trivial⟩⟩⟩ ?_
    exact hR11  hJ
  · have hJ := hJ.2 c
    refine zq_iconst (v := 0) d_Judge_hasNineGates_48 zk_i0 ?_
    exact zq_iret d_Judge_hasNineGates_49 rfl (zm_isB.nar (Or.inl rfl)) (Nat.le_refl _) (Nat.le_refl _) ⟨_, _, rfl, rfl, hJ⟩
set_option maxHeartbeats 400000 in
theorem s_Judge_hasNineGates_L28 {g : zk_T} {a1 : Int32} {R11 : Int32 → zm → Prop} {K : Int32 → zm → Prop} (hR11 : ∀ {x2 : Int32} {m : zm}, R11 x2 m → zq_V (zk_g g) ("RiichiTable$Judge", prog_2_method_23_code, 4, (some .boolean), false, zq_rm 0 0 0) 0 0 11 [some (.ref 2), some (.int a1), some (.int x2), none] [] (zm_hp m) (zm_QI K)) {x2 : Int32} {m : zm} (hJ : j_Judge_hasNineGates_L28 a1 R11 K x2 m) : zq_V (zk_g g) ("RiichiTable$Judge", prog_2_method_23_code, 4, (some .boolean), false, zq_rm 0 0 0) 0 0 28 [some (.ref 2), some (.int a1), some (.int x2), none] [] (zm_hp m) (zm_QI K) := by
  unfold j_Judge_hasNineGates_L28 at hJ
  refine zq_iconst (v := 3) d_Judge_hasNineGates_28 zk_i3 ?_
  refine zq_goto (tgt := 33) d_Judge_hasNineGates_29 (by decide) ?_
  refine zr_less (L' := [some (.ref 2), some (.int a1), some (.int x2), none]) ⟨rfl, ⟨rfl, ⟨rfl, trivial⟩⟩⟩ ?_
  exact s_Judge_hasNineGates_L33  hR11  hJ
set_option maxHeartbeats 400000 in
theorem s_Judge_hasNineGates_L11 {g : zk_T} {a1 : Int32} {K : Int32 → zm → Prop} : ∀ (n : Nat) {x2 : Int32} {m : zm}, j_Judge_hasNineGates_L11 a1  K n x2 m → zq_V (zk_g g) ("RiichiTable$Judge", prog_2_method_23_code, 4, (some .boolean), false, zq_rm 0 0 0) 0 0 11 [some (.ref 2), some (.int a1), some (.int x2), none] [] (zm_hp m) (zm_QI K) := by
  intro n
  induction n with
  | zero =>
    intro x2 m hJ
    exact False.elim hJ
  | succ n ih =>
    intro x2 m hJ
    rw [j_Judge_hasNineGates_L11] at hJ
    refine zq_iload_n d_Judge_hasNineGates_11 rfl rfl ?_
    refine zq_bipush (v := 9) d_Judge_hasNineGates_12 zk_b9 ?_
    refine zq_icmp_gt (tgt := 56) d_Judge_hasNineGates_14 (by decide) (fun c => ?_) (fun c => ?_)
    · have hJ := hJ.1 c
      refine zq_iconst (v := 1) d_Judge_hasNineGates_56 zk_i1 ?_
      exact zq_iret d_Judge_hasNineGates_57 rfl (zm_isB.nar (Or.inr rfl)) (Nat.le_refl _) (Nat.le_refl _) ⟨_, _, rfl, rfl, hJ⟩
    · have hJ := hJ.2 c
      refine zq_iload_n d_Judge_hasNineGates_17 rfl rfl ?_
      refine zq_iconst (v := 1) d_Judge_hasNineGates_18 zk_i1 ?_
      refine zq_icmp_eq (tgt := 28) d_Judge_hasNineGates_19 (by decide) (fun c => ?_) (fun c => ?_)
      · have hJ := hJ.1 c
        refine zr_less (L' := [some (.ref 2), some (.int a1), some (.int x2), none]) ⟨rfl, ⟨rfl, ⟨rfl, trivial⟩⟩⟩ ?_
        exact s_Judge_hasNineGates_L28  ih  hJ
      · have hJ := hJ.2 c
        refine zq_iload_n d_Judge_hasNineGates_22 rfl rfl ?_
        refine zq_bipush (v := 9) d_Judge_hasNineGates_23 zk_b9 ?_
        refine zq_icmp_ne (tgt := 32) d_Judge_hasNineGates_25 (by decide) (fun c => ?_) (fun c => ?_)
        · have hJ := hJ.1 c
          refine zq_iconst (v := 1) d_Judge_hasNineGates_32 zk_i1 ?_
          refine zr_less (L' := [some (.ref 2), some (.int a1), some (.int x2), none]) ⟨rfl, ⟨rfl, ⟨rfl, trivial⟩⟩⟩ ?_
          exact s_Judge_hasNineGates_L33  ih  hJ
        · have hJ := hJ.2 c
          refine zr_less (L' := [some (.ref 2), some (.int a1), some (.int x2), none]) ⟨rfl, ⟨rfl, ⟨rfl, trivial⟩⟩⟩ ?_
          exact s_Judge_hasNineGates_L28  ih  hJ
set_option maxHeartbeats 400000 in
theorem s_Judge_hasNineGates {g : zk_T} {a1 : Int32} {K : Int32 → zm → Prop} {m : zm} (hJ : j_Judge_hasNineGates a1 m K) : zq_Mt (zk_g g) y_Judge_hasNineGates 0 0 0 [.ref 2, .int a1] (zm_hp m) (zm_QI K) := by
  unfold j_Judge_hasNineGates at hJ
  refine zq_meth (ini := false) rfl (fun h => by cases h) (Nat.le_of_ble_eq_true rfl) ?_
  refine zr_L (F := ("RiichiTable$Judge", prog_2_method_23_code, 4, (some .boolean), false, zq_rm 0 0 0)) (L' := [some (.ref 2), some (.int a1), none, none]) rfl ?_
  refine zq_aload_n d_Judge_hasNineGates_0 rfl rfl ?_
  refine zm_getI fg_Judge_48 d_Judge_hasNineGates_1 zs_Judge rfl ?_
  refine zq_if_eq (tgt := 9) d_Judge_hasNineGates_4 (by decide) (fun c => ?_) (fun c => ?_)
  · have hJ := hJ.1 c
    refine zq_iconst (v := 1) d_Judge_hasNineGates_9 zk_i1 ?_
    refine zr_istore_n (L' := [some (.ref 2), some (.int a1), some (.int 1), none]) d_Judge_hasNineGates_10 rfl (Nat.le_of_ble_eq_true rfl) rfl ?_
    refine zr_less (L' := [some (.ref 2), some (.int a1), some (.int 1), none]) ⟨rfl, ⟨rfl, ⟨rfl, trivial⟩⟩⟩ ?_
    obtain ⟨n11, hJ⟩ := hJ
    exact s_Judge_hasNineGates_L11   n11  hJ
  · have hJ := hJ.2 c
    refine zq_iconst (v := 0) d_Judge_hasNineGates_7 zk_i0 ?_
    exact zq_iret d_Judge_hasNineGates_8 rfl (zm_isB.nar (Or.inl rfl)) (Nat.le_refl _) (Nat.le_refl _) ⟨_, _, rfl, rfl, hJ⟩
set_option maxHeartbeats 400000 in
theorem s_Judge_kindsOfTiles_L25 {g : zk_T} {R4 : Int64 → Int32 → zm → Prop} {K : Int64 → zm → Prop} (hR4 : ∀ {x1 : Int64} {x3 : Int32} {m : zm}, R4 x1 x3 m → zq_V (zk_g g) ("RiichiTable$Judge", prog_2_method_21_code, 4, (some .long), false, zq_rm 1 0 0) 0 0 4 [some (.ref 2), some (.long x1), none, some (.int x3)] [] (zm_hp m) (zm_QL K)) {x3 : Int32} {t0 : Int32} {t1 : Int64} {m : zm} (hJ : j_Judge_kindsOfTiles_L25  R4 K x3 t0 t1 m) : zq_V (zk_g g) ("RiichiTable$Judge", prog_2_method_21_code, 4, (some .long), false, zq_rm 1 0 0) 0 0 25 [some (.ref 2), none, none, some (.int x3)] [.int t0, .long t1] (zm_hp m) (zm_QL K) := by
  unfold j_Judge_kindsOfTiles_L25 at hJ
  refine zq_iload_n d_Judge_kindsOfTiles_25 rfl rfl ?_
  refine zr_csL (as := [.int t0, .int x3]) (st := [.long t1]) d_Judge_kindsOfTiles_26 cc_Judge_191 cs_Judge_bitIf (s_Judge_bitIf  hJ) rfl ⟨Nat.le_of_ble_eq_true rfl, Nat.le_of_ble_eq_true rfl⟩ (Nat.le_of_ble_eq_true rfl) ⟨Nat.le_refl _, Nat.le_refl _⟩ rfl (fun r2 m1 hJ => ?_)
  refine zq_lor d_Judge_kindsOfTiles_29 ?_
  refine zr_topl (fun y3 hy3 => ?_)
  have hJ := hJ y3 hy3
  refine zr_lstore_n (L' := [some (.ref 2), some (.long y3), none, some (.int x3)]) d_Judge_kindsOfTiles_30 rfl (Nat.le_of_ble_eq_true rfl) rfl ?_
  refine zr_iinc (d' := 1) d_Judge_kindsOfTiles_31 zk_i1 rfl (Nat.le_of_ble_eq_true rfl) (fun y4 hy4 => ?_)
  have hJ := hJ y4 hy4
  refine zr_L (L' := [some (.ref 2), some (.long y3), none, some (.int y4)]) rfl ?_
  refine zq_goto (tgt := 4) d_Judge_kindsOfTiles_34 (by decide) ?_
  refine zr_less (L' := [some (.ref 2), some (.long y3), none, some (.int y4)]) ⟨rfl, ⟨rfl, ⟨rfl, trivial⟩⟩⟩ ?_
  exact hR4  hJ
set_option maxHeartbeats 400000 in
theorem s_Judge_kindsOfTiles_L4 {g : zk_T} {K : Int64 → zm → Prop} : ∀ (n : Nat) {x1 : Int64} {x3 : Int32} {m : zm}, j_Judge_kindsOfTiles_L4   K n x1 x3 m → zq_V (zk_g g) ("RiichiTable$Judge", prog_2_method_21_code, 4, (some .long), false, zq_rm 1 0 0) 0 0 4 [some (.ref 2), some (.long x1), none, some (.int x3)] [] (zm_hp m) (zm_QL K) := by
  intro n
  induction n with
  | zero =>
    intro x1 x3 m hJ
    exact False.elim hJ
  | succ n ih =>
    intro x1 x3 m hJ
    rw [j_Judge_kindsOfTiles_L4] at hJ
    refine zq_iload_n d_Judge_kindsOfTiles_4 rfl rfl ?_
    refine zq_bipush (v := 34) d_Judge_kindsOfTiles_5 zk_b34 ?_
    refine zq_icmp_ge (tgt := 37) d_Judge_kindsOfTiles_7 (by decide) (fun c => ?_) (fun c => ?_)
    · have hJ := hJ.1 c
      refine zq_lload_n d_Judge_kindsOfTiles_37 rfl rfl ?_
      exact zq_lret d_Judge_kindsOfTiles_38 rfl (Nat.le_refl _) (Nat.le_refl _) ⟨_, _, rfl, rfl, hJ⟩
    · have hJ := hJ.2 c
      refine zq_lload_n d_Judge_kindsOfTiles_10 rfl rfl ?_
      refine zq_aload_n d_Judge_kindsOfTiles_11 rfl rfl ?_
      refine zm_getR fg_Judge_18 d_Judge_kindsOfTiles_12 zs_Judge rfl ?_
      refine zq_iload_n d_Judge_kindsOfTiles_15 rfl rfl ?_
      obtain ⟨hb, hJ⟩ := hJ
      refine zm_ald d_Judge_kindsOfTiles_16 (rfl : zm_sh[7]? = some (.inl (0, 34, .inl (fun _ => 0)))) hb ?_
      refine zq_if_le (tgt := 24) d_Judge_kindsOfTiles_17 (by decide) (fun c => ?_) (fun c => ?_)
      · have hJ := hJ.1 c
        refine zq_iconst (v := 0) d_Judge_kindsOfTiles_24 zk_i0 ?_
        refine zr_less (L' := [some (.ref 2), none, none, some (.int x3)]) ⟨rfl, ⟨rfl, trivial⟩⟩ ?_
        exact s_Judge_kindsOfTiles_L25  ih  hJ
      · have hJ := hJ.2 c
        refine zq_iconst (v := 1) d_Judge_kindsOfTiles_20 zk_i1 ?_
        refine zq_goto (tgt := 25) d_Judge_kindsOfTiles_21 (by decide) ?_
        refine zr_less (L' := [some (.ref 2), none, none, some (.int x3)]) ⟨rfl, ⟨rfl, trivial⟩⟩ ?_
        exact s_Judge_kindsOfTiles_L25  ih  hJ
set_option maxHeartbeats 400000 in
theorem s_Judge_kindsOfTiles {g : zk_T} {K : Int64 → zm → Prop} {m : zm} (hJ : j_Judge_kindsOfTiles  m K) : zq_Mt (zk_g g) y_Judge_kindsOfTiles 1 0 0 [.ref 2] (zm_hp m) (zm_QL K) := by
  unfold j_Judge_kindsOfTiles at hJ
  refine zq_meth (ini := false) rfl (fun h => by cases h) (Nat.le_of_ble_eq_true rfl) ?_
  refine zr_L (F := ("RiichiTable$Judge", prog_2_method_21_code, 4, (some .long), false, zq_rm 1 0 0)) (L' := [some (.ref 2), none, none, none]) rfl ?_
  refine zq_lconst (v := 0) d_Judge_kindsOfTiles_0 zk_l0 ?_
  refine zr_lstore_n (L' := [some (.ref 2), some (.long 0), none, none]) d_Judge_kindsOfTiles_1 rfl (Nat.le_of_ble_eq_true rfl) rfl ?_
  refine zq_iconst (v := 0) d_Judge_kindsOfTiles_2 zk_i0 ?_
  refine zr_istore_n (L' := [some (.ref 2), some (.long 0), none, some (.int 0)]) d_Judge_kindsOfTiles_3 rfl (Nat.le_of_ble_eq_true rfl) rfl ?_
  refine zr_less (L' := [some (.ref 2), some (.long 0), none, some (.int 0)]) ⟨rfl, ⟨rfl, ⟨rfl, trivial⟩⟩⟩ ?_
  obtain ⟨n4, hJ⟩ := hJ
  exact s_Judge_kindsOfTiles_L4   n4  hJ
set_option maxHeartbeats 400000 in
theorem s_Judge_yakuOfTiles_L42 {g : zk_T} {R13 : Int64 → Int32 → Int32 → Int32 → zm → Prop} {K : Int64 → zm → Prop} (hR13 : ∀ {x1 : Int64} {x3 : Int32} {x4 : Int32} {x5 : Int32} {m : zm}, R13 x1 x3 x4 x5 m → zq_V (zk_g g) ("RiichiTable$Judge", prog_2_method_22_code, 6, (some .long), false, zq_rm 2 0 0) 0 0 13 [some (.ref 2), some (.long x1), none, some (.int x3), some (.int x4), some (.int x5)] [] (zm_hp m) (zm_QL K)) {x1 : Int64} {x3 : Int32} {x4 : Int32} {x5 : Int32} {m : zm} (hJ : j_Judge_yakuOfTiles_L42  R13 K x1 x3 x4 x5 m) : zq_V (zk_g g) ("RiichiTable$Judge", prog_2_method_22_code, 6, (some .long), false, zq_rm 2 0 0) 0 0 42 [some (.ref 2), some (.long x1), none, some (.int x3), some (.int x4), some (.int x5)] [] (zm_hp m) (zm_QL K) := by
  unfold j_Judge_yakuOfTiles_L42 at hJ
  refine zr_iinc (d' := 1) d_Judge_yakuOfTiles_42 zk_i1 rfl (Nat.le_of_ble_eq_true rfl) (fun y4 hy4 => ?_)
  have hJ := hJ y4 hy4
  refine zr_L (L' := [some (.ref 2), some (.long x1), none, some (.int x3), some (.int x4), some (.int y4)]) rfl ?_
  refine zq_goto (tgt := 13) d_Judge_yakuOfTiles_45 (by decide) ?_
  refine zr_less (L' := [some (.ref 2), some (.long x1), none, some (.int x3), some (.int x4), some (.int y4)]) ⟨rfl, ⟨rfl, ⟨rfl, ⟨rfl, ⟨rfl, trivial⟩⟩⟩⟩⟩ ?_
  exact hR13  hJ
set_option maxHeartbeats 400000 in
theorem s_Judge_yakuOfTiles_L232 {g : zk_T} {K : Int64 → zm → Prop} {t0 : Int32} {t1 : Int64} {m : zm} (hJ : j_Judge_yakuOfTiles_L232   K t0 t1 m) : zq_V (zk_g g) ("RiichiTable$Judge", prog_2_method_22_code, 6, (some .long), false, zq_rm 2 0 0) 0 0 232 [some (.ref 2), none, none, none, none, none] [.int t0, .long t1] (zm_hp m) (zm_QL K) := by
  unfold j_Judge_yakuOfTiles_L232 at hJ
  refine zq_bipush (v := 39) d_Judge_yakuOfTiles_232 zk_b39 ?_
  refine zr_csL (as := [.int t0, .int 39]) (st := [.long t1]) d_Judge_yakuOfTiles_234 cc_Judge_191 cs_Judge_bitIf (s_Judge_bitIf  hJ) rfl ⟨Nat.le_of_ble_eq_true rfl, Nat.le_of_ble_eq_true rfl⟩ (Nat.le_of_ble_eq_true rfl) ⟨Nat.le_refl _, Nat.le_refl _⟩ rfl (fun r22 m21 hJ => ?_)
  refine zq_lor d_Judge_yakuOfTiles_237 ?_
  exact zq_lret d_Judge_yakuOfTiles_238 rfl (Nat.le_refl _) (Nat.le_refl _) ⟨_, _, rfl, rfl, hJ⟩
set_option maxHeartbeats 400000 in
theorem s_Judge_yakuOfTiles_L211 {g : zk_T} {K : Int64 → zm → Prop} {x1 : Int64} {t0 : Int32} {t1 : Int64} {m : zm} (hJ : j_Judge_yakuOfTiles_L211   K x1 t0 t1 m) : zq_V (zk_g g) ("RiichiTable$Judge", prog_2_method_22_code, 6, (some .long), false, zq_rm 2 0 0) 0 0 211 [some (.ref 2), some (.long x1), none, none, none, none] [.int t0, .long t1] (zm_hp m) (zm_QL K) := by
  unfold j_Judge_yakuOfTiles_L211 at hJ
  refine zq_bipush (v := 38) d_Judge_yakuOfTiles_211 zk_b38 ?_
  refine zr_csL (as := [.int t0, .int 38]) (st := [.long t1]) d_Judge_yakuOfTiles_213 cc_Judge_191 cs_Judge_bitIf (s_Judge_bitIf  hJ) rfl ⟨Nat.le_of_ble_eq_true rfl, Nat.le_of_ble_eq_true rfl⟩ (Nat.le_of_ble_eq_true rfl) ⟨Nat.le_refl _, Nat.le_refl _⟩ rfl (fun r20 m19 hJ => ?_)
  refine zq_lor d_Judge_yakuOfTiles_216 ?_
  refine zq_lload_n d_Judge_yakuOfTiles_217 rfl rfl ?_
  refine zq_ldc2 (v := (-4340580353)) (zq_in (zq_c3 (List.mem_of_getElem? (i := 16) rfl)) rfl) d_Judge_yakuOfTiles_218 ?_
  refine zq_land d_Judge_yakuOfTiles_221 ?_
  refine zq_lconst (v := 0) d_Judge_yakuOfTiles_222 zk_l0 ?_
  refine zq_lcmp d_Judge_yakuOfTiles_223 ?_
  refine zq_if_ne (tgt := 231) d_Judge_yakuOfTiles_224 (by decide) (fun c => ?_) (fun c => ?_)
  · have hJ := hJ.1 c
    refine zq_iconst (v := 0) d_Judge_yakuOfTiles_231 zk_i0 ?_
    refine zr_less (L' := [some (.ref 2), none, none, none, none, none]) ⟨rfl, trivial⟩ ?_
    exact s_Judge_yakuOfTiles_L232    hJ
  · have hJ := hJ.2 c
    refine zq_iconst (v := 1) d_Judge_yakuOfTiles_227 zk_i1 ?_
    refine zq_goto (tgt := 232) d_Judge_yakuOfTiles_228 (by decide) ?_
    refine zr_less (L' := [some (.ref 2), none, none, none, none, none]) ⟨rfl, trivial⟩ ?_
    exact s_Judge_yakuOfTiles_L232    hJ
set_option maxHeartbeats 400000 in
theorem s_Judge_yakuOfTiles_L190 {g : zk_T} {K : Int64 → zm → Prop} {x1 : Int64} {t0 : Int32} {t1 : Int64} {m : zm} (hJ : j_Judge_yakuOfTiles_L190   K x1 t0 t1 m) : zq_V (zk_g g) ("RiichiTable$Judge", prog_2_method_22_code, 6, (some .long), false, zq_rm 2 0 0) 0 0 190 [some (.ref 2), some (.long x1), none, none, none, none] [.int t0, .long t1] (zm_hp m) (zm_QL K) := by
  unfold j_Judge_yakuOfTiles_L190 at hJ
  refine zq_bipush (v := 37) d_Judge_yakuOfTiles_190 zk_b37 ?_
  refine zr_csL (as := [.int t0, .int 37]) (st := [.long t1]) d_Judge_yakuOfTiles_192 cc_Judge_191 cs_Judge_bitIf (s_Judge_bitIf  hJ) rfl ⟨Nat.le_of_ble_eq_true rfl, Nat.le_of_ble_eq_true rfl⟩ (Nat.le_of_ble_eq_true rfl) ⟨Nat.le_refl _, Nat.le_refl _⟩ rfl (fun r18 m17 hJ => ?_)
  refine zq_lor d_Judge_yakuOfTiles_195 ?_
  refine zq_lload_n d_Judge_yakuOfTiles_196 rfl rfl ?_
  refine zq_ldc2 (v := (-67502850)) (zq_in (zq_c3 (List.mem_of_getElem? (i := 15) rfl)) rfl) d_Judge_yakuOfTiles_197 ?_
  refine zq_land d_Judge_yakuOfTiles_200 ?_
  refine zq_lconst (v := 0) d_Judge_yakuOfTiles_201 zk_l0 ?_
  refine zq_lcmp d_Judge_yakuOfTiles_202 ?_
  refine zq_if_ne (tgt := 210) d_Judge_yakuOfTiles_203 (by decide) (fun c => ?_) (fun c => ?_)
  · have hJ := hJ.1 c
    refine zq_iconst (v := 0) d_Judge_yakuOfTiles_210 zk_i0 ?_
    refine zr_less (L' := [some (.ref 2), some (.long x1), none, none, none, none]) ⟨rfl, ⟨rfl, trivial⟩⟩ ?_
    exact s_Judge_yakuOfTiles_L211    hJ
  · have hJ := hJ.2 c
    refine zq_iconst (v := 1) d_Judge_yakuOfTiles_206 zk_i1 ?_
    refine zq_goto (tgt := 211) d_Judge_yakuOfTiles_207 (by decide) ?_
    refine zr_less (L' := [some (.ref 2), some (.long x1), none, none, none, none]) ⟨rfl, ⟨rfl, trivial⟩⟩ ?_
    exact s_Judge_yakuOfTiles_L211    hJ
set_option maxHeartbeats 400000 in
theorem s_Judge_yakuOfTiles_L175 {g : zk_T} {K : Int64 → zm → Prop} {x1 : Int64} {x3 : Int32} {t0 : Int32} {t1 : Int64} {m : zm} (hJ : j_Judge_yakuOfTiles_L175   K x1 x3 t0 t1 m) : zq_V (zk_g g) ("RiichiTable$Judge", prog_2_method_22_code, 6, (some .long), false, zq_rm 2 0 0) 0 0 175 [some (.ref 2), some (.long x1), none, some (.int x3), none, none] [.int t0, .long t1] (zm_hp m) (zm_QL K) := by
  unfold j_Judge_yakuOfTiles_L175 at hJ
  refine zq_bipush (v := 31) d_Judge_yakuOfTiles_175 zk_b31 ?_
  refine zr_csL (as := [.int t0, .int 31]) (st := [.long t1]) d_Judge_yakuOfTiles_177 cc_Judge_191 cs_Judge_bitIf (s_Judge_bitIf  hJ) rfl ⟨Nat.le_of_ble_eq_true rfl, Nat.le_of_ble_eq_true rfl⟩ (Nat.le_of_ble_eq_true rfl) ⟨Nat.le_refl _, Nat.le_refl _⟩ rfl (fun r16 m15 hJ => ?_)
  refine zq_lor d_Judge_yakuOfTiles_180 ?_
  refine zq_iload_n d_Judge_yakuOfTiles_181 rfl rfl ?_
  refine zq_if_ne (tgt := 189) d_Judge_yakuOfTiles_182 (by decide) (fun c => ?_) (fun c => ?_)
  · have hJ := hJ.1 c
    refine zq_iconst (v := 0) d_Judge_yakuOfTiles_189 zk_i0 ?_
    refine zr_less (L' := [some (.ref 2), some (.long x1), none, none, none, none]) ⟨rfl, ⟨rfl, trivial⟩⟩ ?_
    exact s_Judge_yakuOfTiles_L190    hJ
  · have hJ := hJ.2 c
    refine zq_iconst (v := 1) d_Judge_yakuOfTiles_185 zk_i1 ?_
    refine zq_goto (tgt := 190) d_Judge_yakuOfTiles_186 (by decide) ?_
    refine zr_less (L' := [some (.ref 2), some (.long x1), none, none, none, none]) ⟨rfl, ⟨rfl, trivial⟩⟩ ?_
    exact s_Judge_yakuOfTiles_L190    hJ
set_option maxHeartbeats 400000 in
theorem s_Judge_yakuOfTiles_L174 {g : zk_T} {K : Int64 → zm → Prop} {x1 : Int64} {x3 : Int32} {t0 : Int64} {m : zm} (hJ : j_Judge_yakuOfTiles_L174   K x1 x3 t0 m) : zq_V (zk_g g) ("RiichiTable$Judge", prog_2_method_22_code, 6, (some .long), false, zq_rm 2 0 0) 0 0 174 [some (.ref 2), some (.long x1), none, some (.int x3), none, none] [.long t0] (zm_hp m) (zm_QL K) := by
  unfold j_Judge_yakuOfTiles_L174 at hJ
  refine zq_iconst (v := 0) d_Judge_yakuOfTiles_174 zk_i0 ?_
  refine zr_less (L' := [some (.ref 2), some (.long x1), none, some (.int x3), none, none]) ⟨rfl, ⟨rfl, ⟨rfl, trivial⟩⟩⟩ ?_
  exact s_Judge_yakuOfTiles_L175    hJ
set_option maxHeartbeats 400000 in
theorem s_Judge_yakuOfTiles_L142 {g : zk_T} {K : Int64 → zm → Prop} {x1 : Int64} {x3 : Int32} {x4 : Int32} {x5 : Int32} {t0 : Int32} {t1 : Int64} {m : zm} (hJ : j_Judge_yakuOfTiles_L142   K x1 x3 x4 x5 t0 t1 m) : zq_V (zk_g g) ("RiichiTable$Judge", prog_2_method_22_code, 6, (some .long), false, zq_rm 2 0 0) 0 0 142 [some (.ref 2), some (.long x1), none, some (.int x3), some (.int x4), some (.int x5)] [.int t0, .long t1] (zm_hp m) (zm_QL K) := by
  unfold j_Judge_yakuOfTiles_L142 at hJ
  refine zq_bipush (v := 29) d_Judge_yakuOfTiles_142 zk_b29 ?_
  refine zr_csL (as := [.int t0, .int 29]) (st := [.long t1]) d_Judge_yakuOfTiles_144 cc_Judge_191 cs_Judge_bitIf (s_Judge_bitIf  hJ) rfl ⟨Nat.le_of_ble_eq_true rfl, Nat.le_of_ble_eq_true rfl⟩ (Nat.le_of_ble_eq_true rfl) ⟨Nat.le_refl _, Nat.le_refl _⟩ rfl (fun r12 m11 hJ => ?_)
  refine zq_lor d_Judge_yakuOfTiles_147 ?_
  refine zq_iload_n d_Judge_yakuOfTiles_148 rfl rfl ?_
  refine zq_iconst (v := 1) d_Judge_yakuOfTiles_149 zk_i1 ?_
  refine zq_icmp_ne (tgt := 174) d_Judge_yakuOfTiles_150 (by decide) (fun c => ?_) (fun c => ?_)
  · have hJ := hJ.1 c
    refine zr_less (L' := [some (.ref 2), some (.long x1), none, some (.int x3), none, none]) ⟨rfl, ⟨rfl, ⟨rfl, trivial⟩⟩⟩ ?_
    exact s_Judge_yakuOfTiles_L174    hJ
  · have hJ := hJ.2 c
    refine zq_iload d_Judge_yakuOfTiles_153 rfl ?_
    refine zq_if_ne (tgt := 174) d_Judge_yakuOfTiles_155 (by decide) (fun c => ?_) (fun c => ?_)
    · have hJ := hJ.1 c
      refine zr_less (L' := [some (.ref 2), some (.long x1), none, some (.int x3), none, none]) ⟨rfl, ⟨rfl, ⟨rfl, trivial⟩⟩⟩ ?_
      exact s_Judge_yakuOfTiles_L174    hJ
    · have hJ := hJ.2 c
      refine zq_aload_n d_Judge_yakuOfTiles_158 rfl rfl ?_
      refine zq_bipush (v := 9) d_Judge_yakuOfTiles_159 zk_b9 ?_
      refine zq_iload d_Judge_yakuOfTiles_161 rfl ?_
      refine zq_imul d_Judge_yakuOfTiles_163 ?_
      refine zr_cvI (q := 2) (as := [.int (9 * x4)]) (st := [.long (t1 ||| r12)]) d_Judge_yakuOfTiles_164 cc_Judge_240 cv_Judge_hasNineGates zs_Judge (s_Judge_hasNineGates  hJ) rfl ⟨Nat.le_of_ble_eq_true rfl, Nat.le_of_ble_eq_true rfl⟩ (Nat.le_of_ble_eq_true rfl) ⟨Nat.le_refl _, Nat.le_refl _⟩ rfl (fun r14 m13 hJ => ?_)
      refine zq_if_eq (tgt := 174) d_Judge_yakuOfTiles_167 (by decide) (fun c => ?_) (fun c => ?_)
      · have hJ := hJ.1 c
        refine zr_less (L' := [some (.ref 2), some (.long x1), none, some (.int x3), none, none]) ⟨rfl, ⟨rfl, ⟨rfl, trivial⟩⟩⟩ ?_
        exact s_Judge_yakuOfTiles_L174    hJ
      · have hJ := hJ.2 c
        refine zq_iconst (v := 1) d_Judge_yakuOfTiles_170 zk_i1 ?_
        refine zq_goto (tgt := 175) d_Judge_yakuOfTiles_171 (by decide) ?_
        refine zr_less (L' := [some (.ref 2), some (.long x1), none, some (.int x3), none, none]) ⟨rfl, ⟨rfl, ⟨rfl, trivial⟩⟩⟩ ?_
        exact s_Judge_yakuOfTiles_L175    hJ
set_option maxHeartbeats 400000 in
theorem s_Judge_yakuOfTiles_L141 {g : zk_T} {K : Int64 → zm → Prop} {x1 : Int64} {x3 : Int32} {x4 : Int32} {x5 : Int32} {t0 : Int64} {m : zm} (hJ : j_Judge_yakuOfTiles_L141   K x1 x3 x4 x5 t0 m) : zq_V (zk_g g) ("RiichiTable$Judge", prog_2_method_22_code, 6, (some .long), false, zq_rm 2 0 0) 0 0 141 [some (.ref 2), some (.long x1), none, some (.int x3), some (.int x4), some (.int x5)] [.long t0] (zm_hp m) (zm_QL K) := by
  unfold j_Judge_yakuOfTiles_L141 at hJ
  refine zq_iconst (v := 0) d_Judge_yakuOfTiles_141 zk_i0 ?_
  refine zr_less (L' := [some (.ref 2), some (.long x1), none, some (.int x3), some (.int x4), some (.int x5)]) ⟨rfl, ⟨rfl, ⟨rfl, ⟨rfl, ⟨rfl, trivial⟩⟩⟩⟩⟩ ?_
  exact s_Judge_yakuOfTiles_L142    hJ
set_option maxHeartbeats 400000 in
theorem s_Judge_yakuOfTiles_L121 {g : zk_T} {K : Int64 → zm → Prop} {x1 : Int64} {x3 : Int32} {x4 : Int32} {x5 : Int32} {t0 : Int32} {t1 : Int64} {m : zm} (hJ : j_Judge_yakuOfTiles_L121   K x1 x3 x4 x5 t0 t1 m) : zq_V (zk_g g) ("RiichiTable$Judge", prog_2_method_22_code, 6, (some .long), false, zq_rm 2 0 0) 0 0 121 [some (.ref 2), some (.long x1), none, some (.int x3), some (.int x4), some (.int x5)] [.int t0, .long t1] (zm_hp m) (zm_QL K) := by
  unfold j_Judge_yakuOfTiles_L121 at hJ
  refine zq_bipush (v := 28) d_Judge_yakuOfTiles_121 zk_b28 ?_
  refine zr_csL (as := [.int t0, .int 28]) (st := [.long t1]) d_Judge_yakuOfTiles_123 cc_Judge_191 cs_Judge_bitIf (s_Judge_bitIf  hJ) rfl ⟨Nat.le_of_ble_eq_true rfl, Nat.le_of_ble_eq_true rfl⟩ (Nat.le_of_ble_eq_true rfl) ⟨Nat.le_refl _, Nat.le_refl _⟩ rfl (fun r10 m9 hJ => ?_)
  refine zq_lor d_Judge_yakuOfTiles_126 ?_
  refine zq_iload_n d_Judge_yakuOfTiles_127 rfl rfl ?_
  refine zq_iconst (v := 1) d_Judge_yakuOfTiles_128 zk_i1 ?_
  refine zq_icmp_ne (tgt := 141) d_Judge_yakuOfTiles_129 (by decide) (fun c => ?_) (fun c => ?_)
  · have hJ := hJ.1 c
    refine zr_less (L' := [some (.ref 2), some (.long x1), none, some (.int x3), some (.int x4), some (.int x5)]) ⟨rfl, ⟨rfl, ⟨rfl, ⟨rfl, ⟨rfl, trivial⟩⟩⟩⟩⟩ ?_
    exact s_Judge_yakuOfTiles_L141    hJ
  · have hJ := hJ.2 c
    refine zq_iload d_Judge_yakuOfTiles_132 rfl ?_
    refine zq_if_ne (tgt := 141) d_Judge_yakuOfTiles_134 (by decide) (fun c => ?_) (fun c => ?_)
    · have hJ := hJ.1 c
      refine zr_less (L' := [some (.ref 2), some (.long x1), none, some (.int x3), some (.int x4), some (.int x5)]) ⟨rfl, ⟨rfl, ⟨rfl, ⟨rfl, ⟨rfl, trivial⟩⟩⟩⟩⟩ ?_
      exact s_Judge_yakuOfTiles_L141    hJ
    · have hJ := hJ.2 c
      refine zq_iconst (v := 1) d_Judge_yakuOfTiles_137 zk_i1 ?_
      refine zq_goto (tgt := 142) d_Judge_yakuOfTiles_138 (by decide) ?_
      refine zr_less (L' := [some (.ref 2), some (.long x1), none, some (.int x3), some (.int x4), some (.int x5)]) ⟨rfl, ⟨rfl, ⟨rfl, ⟨rfl, ⟨rfl, trivial⟩⟩⟩⟩⟩ ?_
      exact s_Judge_yakuOfTiles_L142    hJ
set_option maxHeartbeats 400000 in
theorem s_Judge_yakuOfTiles_L120 {g : zk_T} {K : Int64 → zm → Prop} {x1 : Int64} {x3 : Int32} {x4 : Int32} {x5 : Int32} {t0 : Int64} {m : zm} (hJ : j_Judge_yakuOfTiles_L120   K x1 x3 x4 x5 t0 m) : zq_V (zk_g g) ("RiichiTable$Judge", prog_2_method_22_code, 6, (some .long), false, zq_rm 2 0 0) 0 0 120 [some (.ref 2), some (.long x1), none, some (.int x3), some (.int x4), some (.int x5)] [.long t0] (zm_hp m) (zm_QL K) := by
  unfold j_Judge_yakuOfTiles_L120 at hJ
  refine zq_iconst (v := 0) d_Judge_yakuOfTiles_120 zk_i0 ?_
  refine zr_less (L' := [some (.ref 2), some (.long x1), none, some (.int x3), some (.int x4), some (.int x5)]) ⟨rfl, ⟨rfl, ⟨rfl, ⟨rfl, ⟨rfl, trivial⟩⟩⟩⟩⟩ ?_
  exact s_Judge_yakuOfTiles_L121    hJ
set_option maxHeartbeats 400000 in
theorem s_Judge_yakuOfTiles_L100 {g : zk_T} {K : Int64 → zm → Prop} {x1 : Int64} {x3 : Int32} {x4 : Int32} {x5 : Int32} {t0 : Int32} {t1 : Int64} {m : zm} (hJ : j_Judge_yakuOfTiles_L100   K x1 x3 x4 x5 t0 t1 m) : zq_V (zk_g g) ("RiichiTable$Judge", prog_2_method_22_code, 6, (some .long), false, zq_rm 2 0 0) 0 0 100 [some (.ref 2), some (.long x1), none, some (.int x3), some (.int x4), some (.int x5)] [.int t0, .long t1] (zm_hp m) (zm_QL K) := by
  unfold j_Judge_yakuOfTiles_L100 at hJ
  refine zq_bipush (v := 25) d_Judge_yakuOfTiles_100 zk_b25 ?_
  refine zr_csL (as := [.int t0, .int 25]) (st := [.long t1]) d_Judge_yakuOfTiles_102 cc_Judge_191 cs_Judge_bitIf (s_Judge_bitIf  hJ) rfl ⟨Nat.le_of_ble_eq_true rfl, Nat.le_of_ble_eq_true rfl⟩ (Nat.le_of_ble_eq_true rfl) ⟨Nat.le_refl _, Nat.le_refl _⟩ rfl (fun r8 m7 hJ => ?_)
  refine zq_lor d_Judge_yakuOfTiles_105 ?_
  refine zq_iload_n d_Judge_yakuOfTiles_106 rfl rfl ?_
  refine zq_iconst (v := 1) d_Judge_yakuOfTiles_107 zk_i1 ?_
  refine zq_icmp_ne (tgt := 120) d_Judge_yakuOfTiles_108 (by decide) (fun c => ?_) (fun c => ?_)
  · have hJ := hJ.1 c
    refine zr_less (L' := [some (.ref 2), some (.long x1), none, some (.int x3), some (.int x4), some (.int x5)]) ⟨rfl, ⟨rfl, ⟨rfl, ⟨rfl, ⟨rfl, trivial⟩⟩⟩⟩⟩ ?_
    exact s_Judge_yakuOfTiles_L120    hJ
  · have hJ := hJ.2 c
    refine zq_iload d_Judge_yakuOfTiles_111 rfl ?_
    refine zq_if_eq (tgt := 120) d_Judge_yakuOfTiles_113 (by decide) (fun c => ?_) (fun c => ?_)
    · have hJ := hJ.1 c
      refine zr_less (L' := [some (.ref 2), some (.long x1), none, some (.int x3), some (.int x4), some (.int x5)]) ⟨rfl, ⟨rfl, ⟨rfl, ⟨rfl, ⟨rfl, trivial⟩⟩⟩⟩⟩ ?_
      exact s_Judge_yakuOfTiles_L120    hJ
    · have hJ := hJ.2 c
      refine zq_iconst (v := 1) d_Judge_yakuOfTiles_116 zk_i1 ?_
      refine zq_goto (tgt := 121) d_Judge_yakuOfTiles_117 (by decide) ?_
      refine zr_less (L' := [some (.ref 2), some (.long x1), none, some (.int x3), some (.int x4), some (.int x5)]) ⟨rfl, ⟨rfl, ⟨rfl, ⟨rfl, ⟨rfl, trivial⟩⟩⟩⟩⟩ ?_
      exact s_Judge_yakuOfTiles_L121    hJ
set_option maxHeartbeats 400000 in
theorem s_Judge_yakuOfTiles_L80 {g : zk_T} {K : Int64 → zm → Prop} {x1 : Int64} {x3 : Int32} {x4 : Int32} {x5 : Int32} {t0 : Int32} {m : zm} (hJ : j_Judge_yakuOfTiles_L80   K x1 x3 x4 x5 t0 m) : zq_V (zk_g g) ("RiichiTable$Judge", prog_2_method_22_code, 6, (some .long), false, zq_rm 2 0 0) 0 0 80 [some (.ref 2), some (.long x1), none, some (.int x3), some (.int x4), some (.int x5)] [.int t0] (zm_hp m) (zm_QL K) := by
  unfold j_Judge_yakuOfTiles_L80 at hJ
  refine zq_bipush (v := 24) d_Judge_yakuOfTiles_80 zk_b24 ?_
  refine zr_csL (as := [.int t0, .int 24]) (st := []) d_Judge_yakuOfTiles_82 cc_Judge_191 cs_Judge_bitIf (s_Judge_bitIf  hJ) rfl ⟨Nat.le_of_ble_eq_true rfl, Nat.le_of_ble_eq_true rfl⟩ (Nat.le_of_ble_eq_true rfl) ⟨Nat.le_refl _, Nat.le_refl _⟩ rfl (fun r6 m5 hJ => ?_)
  refine zq_lload_n d_Judge_yakuOfTiles_85 rfl rfl ?_
  refine zq_ldc2 (v := (-17113154306)) (zq_in (zq_c3 (List.mem_of_getElem? (i := 10) rfl)) rfl) d_Judge_yakuOfTiles_86 ?_
  refine zq_land d_Judge_yakuOfTiles_89 ?_
  refine zq_lconst (v := 0) d_Judge_yakuOfTiles_90 zk_l0 ?_
  refine zq_lcmp d_Judge_yakuOfTiles_91 ?_
  refine zq_if_ne (tgt := 99) d_Judge_yakuOfTiles_92 (by decide) (fun c => ?_) (fun c => ?_)
  · have hJ := hJ.1 c
    refine zq_iconst (v := 0) d_Judge_yakuOfTiles_99 zk_i0 ?_
    refine zr_less (L' := [some (.ref 2), some (.long x1), none, some (.int x3), some (.int x4), some (.int x5)]) ⟨rfl, ⟨rfl, ⟨rfl, ⟨rfl, ⟨rfl, trivial⟩⟩⟩⟩⟩ ?_
    exact s_Judge_yakuOfTiles_L100    hJ
  · have hJ := hJ.2 c
    refine zq_iconst (v := 1) d_Judge_yakuOfTiles_95 zk_i1 ?_
    refine zq_goto (tgt := 100) d_Judge_yakuOfTiles_96 (by decide) ?_
    refine zr_less (L' := [some (.ref 2), some (.long x1), none, some (.int x3), some (.int x4), some (.int x5)]) ⟨rfl, ⟨rfl, ⟨rfl, ⟨rfl, ⟨rfl, trivial⟩⟩⟩⟩⟩ ?_
    exact s_Judge_yakuOfTiles_L100    hJ
set_option maxHeartbeats 400000 in
theorem s_Judge_yakuOfTiles_L63 {g : zk_T} {K : Int64 → zm → Prop} {x1 : Int64} {x3 : Int32} {x4 : Int32} {t0 : Int32} {m : zm} (hJ : j_Judge_yakuOfTiles_L63   K x1 x3 x4 t0 m) : zq_V (zk_g g) ("RiichiTable$Judge", prog_2_method_22_code, 6, (some .long), false, zq_rm 2 0 0) 0 0 63 [some (.ref 2), some (.long x1), none, some (.int x3), some (.int x4), none] [.int t0] (zm_hp m) (zm_QL K) := by
  unfold j_Judge_yakuOfTiles_L63 at hJ
  refine zr_istore (L' := [some (.ref 2), some (.long x1), none, some (.int x3), some (.int x4), some (.int t0)]) d_Judge_yakuOfTiles_63 (Nat.le_of_ble_eq_true rfl) rfl ?_
  refine zq_lload_n d_Judge_yakuOfTiles_65 rfl rfl ?_
  refine zq_ldc2 (v := 17113154305) (zq_in (zq_c3 (List.mem_of_getElem? (i := 9) rfl)) rfl) d_Judge_yakuOfTiles_66 ?_
  refine zq_land d_Judge_yakuOfTiles_69 ?_
  refine zq_lconst (v := 0) d_Judge_yakuOfTiles_70 zk_l0 ?_
  refine zq_lcmp d_Judge_yakuOfTiles_71 ?_
  refine zq_if_ne (tgt := 79) d_Judge_yakuOfTiles_72 (by decide) (fun c => ?_) (fun c => ?_)
  · have hJ := hJ.1 c
    refine zq_iconst (v := 0) d_Judge_yakuOfTiles_79 zk_i0 ?_
    refine zr_less (L' := [some (.ref 2), some (.long x1), none, some (.int x3), some (.int x4), some (.int t0)]) ⟨rfl, ⟨rfl, ⟨rfl, ⟨rfl, ⟨rfl, trivial⟩⟩⟩⟩⟩ ?_
    exact s_Judge_yakuOfTiles_L80    hJ
  · have hJ := hJ.2 c
    refine zq_iconst (v := 1) d_Judge_yakuOfTiles_75 zk_i1 ?_
    refine zq_goto (tgt := 80) d_Judge_yakuOfTiles_76 (by decide) ?_
    refine zr_less (L' := [some (.ref 2), some (.long x1), none, some (.int x3), some (.int x4), some (.int t0)]) ⟨rfl, ⟨rfl, ⟨rfl, ⟨rfl, ⟨rfl, trivial⟩⟩⟩⟩⟩ ?_
    exact s_Judge_yakuOfTiles_L80    hJ
set_option maxHeartbeats 400000 in
theorem s_Judge_yakuOfTiles_L13 {g : zk_T} {K : Int64 → zm → Prop} : ∀ (n : Nat) {x1 : Int64} {x3 : Int32} {x4 : Int32} {x5 : Int32} {m : zm}, j_Judge_yakuOfTiles_L13   K n x1 x3 x4 x5 m → zq_V (zk_g g) ("RiichiTable$Judge", prog_2_method_22_code, 6, (some .long), false, zq_rm 2 0 0) 0 0 13 [some (.ref 2), some (.long x1), none, some (.int x3), some (.int x4), some (.int x5)] [] (zm_hp m) (zm_QL K) := by
  intro n
  induction n with
  | zero =>
    intro x1 x3 x4 x5 m hJ
    exact False.elim hJ
  | succ n ih =>
    intro x1 x3 x4 x5 m hJ
    rw [j_Judge_yakuOfTiles_L13] at hJ
    refine zq_iload d_Judge_yakuOfTiles_13 rfl ?_
    refine zq_iconst (v := 3) d_Judge_yakuOfTiles_15 zk_i3 ?_
    refine zq_icmp_ge (tgt := 48) d_Judge_yakuOfTiles_16 (by decide) (fun c => ?_) (fun c => ?_)
    · have hJ := hJ.1 c
      refine zq_lload_n d_Judge_yakuOfTiles_48 rfl rfl ?_
      refine zq_ldc2 (v := 17045651456) (zq_in (zq_c3 (List.mem_of_getElem? (i := 8) rfl)) rfl) d_Judge_yakuOfTiles_49 ?_
      refine zq_land d_Judge_yakuOfTiles_52 ?_
      refine zq_lconst (v := 0) d_Judge_yakuOfTiles_53 zk_l0 ?_
      refine zq_lcmp d_Judge_yakuOfTiles_54 ?_
      refine zq_if_eq (tgt := 62) d_Judge_yakuOfTiles_55 (by decide) (fun c => ?_) (fun c => ?_)
      · have hJ := hJ.1 c
        refine zq_iconst (v := 0) d_Judge_yakuOfTiles_62 zk_i0 ?_
        refine zr_less (L' := [some (.ref 2), some (.long x1), none, some (.int x3), some (.int x4), none]) ⟨rfl, ⟨rfl, ⟨rfl, ⟨rfl, trivial⟩⟩⟩⟩ ?_
        exact s_Judge_yakuOfTiles_L63    hJ
      · have hJ := hJ.2 c
        refine zq_iconst (v := 1) d_Judge_yakuOfTiles_58 zk_i1 ?_
        refine zq_goto (tgt := 63) d_Judge_yakuOfTiles_59 (by decide) ?_
        refine zr_less (L' := [some (.ref 2), some (.long x1), none, some (.int x3), some (.int x4), none]) ⟨rfl, ⟨rfl, ⟨rfl, ⟨rfl, trivial⟩⟩⟩⟩ ?_
        exact s_Judge_yakuOfTiles_L63    hJ
    · have hJ := hJ.2 c
      refine zq_lload_n d_Judge_yakuOfTiles_19 rfl rfl ?_
      refine zq_bipush (v := 9) d_Judge_yakuOfTiles_20 zk_b9 ?_
      refine zq_iload d_Judge_yakuOfTiles_22 rfl ?_
      refine zq_imul d_Judge_yakuOfTiles_24 ?_
      refine zq_lshr d_Judge_yakuOfTiles_25 ?_
      refine zq_ldc2 (v := 511) (zq_in (zq_c3 (List.mem_of_getElem? (i := 7) rfl)) rfl) d_Judge_yakuOfTiles_26 ?_
      refine zq_land d_Judge_yakuOfTiles_29 ?_
      refine zq_lconst (v := 0) d_Judge_yakuOfTiles_30 zk_l0 ?_
      refine zq_lcmp d_Judge_yakuOfTiles_31 ?_
      refine zq_if_eq (tgt := 42) d_Judge_yakuOfTiles_32 (by decide) (fun c => ?_) (fun c => ?_)
      · have hJ := hJ.1 c
        refine zr_less (L' := [some (.ref 2), some (.long x1), none, some (.int x3), some (.int x4), some (.int x5)]) ⟨rfl, ⟨rfl, ⟨rfl, ⟨rfl, ⟨rfl, trivial⟩⟩⟩⟩⟩ ?_
        exact s_Judge_yakuOfTiles_L42  ih  hJ
      · have hJ := hJ.2 c
        refine zr_iinc (d' := 1) d_Judge_yakuOfTiles_35 zk_i1 rfl (Nat.le_of_ble_eq_true rfl) (fun y3 hy3 => ?_)
        have hJ := hJ y3 hy3
        refine zr_L (L' := [some (.ref 2), some (.long x1), none, some (.int y3), some (.int x4), some (.int x5)]) rfl ?_
        refine zq_iload d_Judge_yakuOfTiles_38 rfl ?_
        refine zr_istore (L' := [some (.ref 2), some (.long x1), none, some (.int y3), some (.int x5), some (.int x5)]) d_Judge_yakuOfTiles_40 (Nat.le_of_ble_eq_true rfl) rfl ?_
        refine zr_less (L' := [some (.ref 2), some (.long x1), none, some (.int y3), some (.int x5), some (.int x5)]) ⟨rfl, ⟨rfl, ⟨rfl, ⟨rfl, ⟨rfl, trivial⟩⟩⟩⟩⟩ ?_
        exact s_Judge_yakuOfTiles_L42  ih  hJ
set_option maxHeartbeats 400000 in
theorem s_Judge_yakuOfTiles {g : zk_T} {K : Int64 → zm → Prop} {m : zm} (hJ : j_Judge_yakuOfTiles  m K) : zq_Mt (zk_g g) y_Judge_yakuOfTiles 2 0 0 [.ref 2] (zm_hp m) (zm_QL K) := by
  unfold j_Judge_yakuOfTiles at hJ
  refine zq_meth (ini := false) rfl (fun h => by cases h) (Nat.le_of_ble_eq_true rfl) ?_
  refine zr_L (F := ("RiichiTable$Judge", prog_2_method_22_code, 6, (some .long), false, zq_rm 2 0 0)) (L' := [some (.ref 2), none, none, none, none, none]) rfl ?_
  refine zq_aload_n d_Judge_yakuOfTiles_0 rfl rfl ?_
  refine zr_cvL (q := 2) (as := []) (st := []) d_Judge_yakuOfTiles_1 cc_Judge_231 cv_Judge_kindsOfTiles zs_Judge (s_Judge_kindsOfTiles  hJ) rfl ⟨Nat.le_of_ble_eq_true rfl, Nat.le_of_ble_eq_true rfl⟩ (Nat.le_of_ble_eq_true rfl) ⟨Nat.le_refl _, Nat.le_refl _⟩ rfl (fun r2 m1 hJ => ?_)
  refine zr_lstore_n (L' := [some (.ref 2), some (.long r2), none, none, none, none]) d_Judge_yakuOfTiles_4 rfl (Nat.le_of_ble_eq_true rfl) rfl ?_
  refine zq_iconst (v := 0) d_Judge_yakuOfTiles_5 zk_i0 ?_
  refine zr_istore_n (L' := [some (.ref 2), some (.long r2), none, some (.int 0), none, none]) d_Judge_yakuOfTiles_6 rfl (Nat.le_of_ble_eq_true rfl) rfl ?_
  refine zq_iconst (v := 0) d_Judge_yakuOfTiles_7 zk_i0 ?_
  refine zr_istore (L' := [some (.ref 2), some (.long r2), none, some (.int 0), some (.int 0), none]) d_Judge_yakuOfTiles_8 (Nat.le_of_ble_eq_true rfl) rfl ?_
  refine zq_iconst (v := 0) d_Judge_yakuOfTiles_10 zk_i0 ?_
  refine zr_istore (L' := [some (.ref 2), some (.long r2), none, some (.int 0), some (.int 0), some (.int 0)]) d_Judge_yakuOfTiles_11 (Nat.le_of_ble_eq_true rfl) rfl ?_
  refine zr_less (L' := [some (.ref 2), some (.long r2), none, some (.int 0), some (.int 0), some (.int 0)]) ⟨rfl, ⟨rfl, ⟨rfl, ⟨rfl, ⟨rfl, trivial⟩⟩⟩⟩⟩ ?_
  obtain ⟨n13, hJ⟩ := hJ
  exact s_Judge_yakuOfTiles_L13   n13  hJ
set_option maxHeartbeats 400000 in
theorem s_Shape_isOrphans_L22 {g : zk_T} {r0 : Nat} (hr0 : zm_ar r0) {R4 : Int64 → Int32 → zm → Prop} {K : Int32 → zm → Prop} (hR4 : ∀ {x1 : Int64} {x3 : Int32} {m : zm}, R4 x1 x3 m → zq_V (zk_g g) ("RiichiTable$Shape", prog_4_method_6_code, 4, (some .boolean), false, zq_rm 0 0 0) 0 0 4 [some (.ref r0), some (.long x1), none, some (.int x3)] [] (zm_hp m) (zm_QI K)) {x1 : Int64} {x3 : Int32} {m : zm} (hJ : j_Shape_isOrphans_L22 r0 R4 K x1 x3 m) : zq_V (zk_g g) ("RiichiTable$Shape", prog_4_method_6_code, 4, (some .boolean), false, zq_rm 0 0 0) 0 0 22 [some (.ref r0), some (.long x1), none, some (.int x3)] [] (zm_hp m) (zm_QI K) := by
  unfold j_Shape_isOrphans_L22 at hJ
  refine zr_iinc (d' := 1) d_Shape_isOrphans_22 zk_i1 rfl (Nat.le_of_ble_eq_true rfl) (fun y2 hy2 => ?_)
  have hJ := hJ y2 hy2
  refine zr_L (L' := [some (.ref r0), some (.long x1), none, some (.int y2)]) rfl ?_
  refine zq_goto (tgt := 4) d_Shape_isOrphans_25 (by decide) ?_
  refine zr_less (L' := [some (.ref r0), some (.long x1), none, some (.int y2)]) ⟨rfl, ⟨rfl, ⟨rfl, trivial⟩⟩⟩ ?_
  exact hR4  hJ
set_option maxHeartbeats 400000 in
theorem s_Shape_isOrphans_L41 {g : zk_T} {r0 : Nat} (hr0 : zm_ar r0) {K : Int32 → zm → Prop} {t0 : Int32} {m : zm} (hJ : j_Shape_isOrphans_L41 r0  K t0 m) : zq_V (zk_g g) ("RiichiTable$Shape", prog_4_method_6_code, 4, (some .boolean), false, zq_rm 0 0 0) 0 0 41 [some (.ref r0), none, none, none] [.int t0] (zm_hp m) (zm_QI K) := by
  unfold j_Shape_isOrphans_L41 at hJ
  exact zq_iret d_Shape_isOrphans_41 rfl hJ.1.nar (Nat.le_refl _) (Nat.le_refl _) ⟨_, _, rfl, rfl, hJ.2⟩
set_option maxHeartbeats 400000 in
theorem s_Shape_isOrphans_L4 {g : zk_T} {r0 : Nat} (hr0 : zm_ar r0) {K : Int32 → zm → Prop} : ∀ (n : Nat) {x1 : Int64} {x3 : Int32} {m : zm}, j_Shape_isOrphans_L4 r0  K n x1 x3 m → zq_V (zk_g g) ("RiichiTable$Shape", prog_4_method_6_code, 4, (some .boolean), false, zq_rm 0 0 0) 0 0 4 [some (.ref r0), some (.long x1), none, some (.int x3)] [] (zm_hp m) (zm_QI K) := by
  intro n
  induction n with
  | zero =>
    intro x1 x3 m hJ
    exact False.elim hJ
  | succ n ih =>
    intro x1 x3 m hJ
    rw [j_Shape_isOrphans_L4] at hJ
    refine zq_iload_n d_Shape_isOrphans_4 rfl rfl ?_
    refine zq_bipush (v := 34) d_Shape_isOrphans_5 zk_b34 ?_
    refine zq_icmp_ge (tgt := 28) d_Shape_isOrphans_7 (by decide) (fun c => ?_) (fun c => ?_)
    · have hJ := hJ.1 c
      refine zq_lload_n d_Shape_isOrphans_28 rfl rfl ?_
      refine zq_ldc2 (v := 17113154305) (zq_in (zq_c2 (List.mem_of_getElem? (i := 135) rfl)) rfl) d_Shape_isOrphans_29 ?_
      refine zq_lcmp d_Shape_isOrphans_32 ?_
      refine zq_if_ne (tgt := 40) d_Shape_isOrphans_33 (by decide) (fun c => ?_) (fun c => ?_)
      · have hJ := hJ.1 c
        refine zq_iconst (v := 0) d_Shape_isOrphans_40 zk_i0 ?_
        refine zr_less (L' := [some (.ref r0), none, none, none]) ⟨rfl, trivial⟩ ?_
        exact s_Shape_isOrphans_L41 hr0   hJ
      · have hJ := hJ.2 c
        refine zq_iconst (v := 1) d_Shape_isOrphans_36 zk_i1 ?_
        refine zq_goto (tgt := 41) d_Shape_isOrphans_37 (by decide) ?_
        refine zr_less (L' := [some (.ref r0), none, none, none]) ⟨rfl, trivial⟩ ?_
        exact s_Shape_isOrphans_L41 hr0   hJ
    · have hJ := hJ.2 c
      refine zq_aload_n d_Shape_isOrphans_10 rfl rfl ?_
      refine zq_iload_n d_Shape_isOrphans_11 rfl rfl ?_
      obtain ⟨hb, hJ⟩ := hJ
      refine zm_ald d_Shape_isOrphans_12 hr0 hb ?_
      refine zq_if_le (tgt := 22) d_Shape_isOrphans_13 (by decide) (fun c => ?_) (fun c => ?_)
      · have hJ := hJ.1 c
        refine zr_less (L' := [some (.ref r0), some (.long x1), none, some (.int x3)]) ⟨rfl, ⟨rfl, ⟨rfl, trivial⟩⟩⟩ ?_
        exact s_Shape_isOrphans_L22 hr0 ih  hJ
      · have hJ := hJ.2 c
        refine zq_lload_n d_Shape_isOrphans_16 rfl rfl ?_
        refine zq_lconst (v := 1) d_Shape_isOrphans_17 zk_l1 ?_
        refine zq_iload_n d_Shape_isOrphans_18 rfl rfl ?_
        refine zq_lshl d_Shape_isOrphans_19 ?_
        refine zq_lor d_Shape_isOrphans_20 ?_
        refine zr_topl (fun y1 hy1 => ?_)
        have hJ := hJ y1 hy1
        refine zr_lstore_n (L' := [some (.ref r0), some (.long y1), none, some (.int x3)]) d_Shape_isOrphans_21 rfl (Nat.le_of_ble_eq_true rfl) rfl ?_
        refine zr_less (L' := [some (.ref r0), some (.long y1), none, some (.int x3)]) ⟨rfl, ⟨rfl, ⟨rfl, trivial⟩⟩⟩ ?_
        exact s_Shape_isOrphans_L22 hr0 ih  hJ
set_option maxHeartbeats 400000 in
theorem s_Shape_isOrphans {g : zk_T} {r0 : Nat} (hr0 : zm_ar r0) {K : Int32 → zm → Prop} {m : zm} (hJ : j_Shape_isOrphans r0 m K) : zq_Mt (zk_g g) y_Shape_isOrphans 0 0 0 [.ref r0] (zm_hp m) (zm_QI K) := by
  unfold j_Shape_isOrphans at hJ
  refine zq_meth (ini := false) rfl (fun h => by cases h) (Nat.le_of_ble_eq_true rfl) ?_
  refine zr_L (F := ("RiichiTable$Shape", prog_4_method_6_code, 4, (some .boolean), false, zq_rm 0 0 0)) (L' := [some (.ref r0), none, none, none]) rfl ?_
  refine zq_lconst (v := 0) d_Shape_isOrphans_0 zk_l0 ?_
  refine zr_lstore_n (L' := [some (.ref r0), some (.long 0), none, none]) d_Shape_isOrphans_1 rfl (Nat.le_of_ble_eq_true rfl) rfl ?_
  refine zq_iconst (v := 0) d_Shape_isOrphans_2 zk_i0 ?_
  refine zr_istore_n (L' := [some (.ref r0), some (.long 0), none, some (.int 0)]) d_Shape_isOrphans_3 rfl (Nat.le_of_ble_eq_true rfl) rfl ?_
  refine zr_less (L' := [some (.ref r0), some (.long 0), none, some (.int 0)]) ⟨rfl, ⟨rfl, ⟨rfl, trivial⟩⟩⟩ ?_
  obtain ⟨n4, hJ⟩ := hJ
  exact s_Shape_isOrphans_L4 hr0  n4  hJ
set_option maxHeartbeats 400000 in
theorem s_Shape_isSevenPairs_L20 {g : zk_T} {r0 : Nat} (hr0 : zm_ar r0) {R4 : Int32 → Int32 → zm → Prop} {K : Int32 → zm → Prop} (hR4 : ∀ {x1 : Int32} {x2 : Int32} {m : zm}, R4 x1 x2 m → zq_V (zk_g g) ("RiichiTable$Shape", prog_4_method_5_code, 3, (some .boolean), false, zq_rm 0 0 0) 0 0 4 [some (.ref r0), some (.int x1), some (.int x2)] [] (zm_hp m) (zm_QI K)) {x1 : Int32} {x2 : Int32} {m : zm} (hJ : j_Shape_isSevenPairs_L20 r0 R4 K x1 x2 m) : zq_V (zk_g g) ("RiichiTable$Shape", prog_4_method_5_code, 3, (some .boolean), false, zq_rm 0 0 0) 0 0 20 [some (.ref r0), some (.int x1), some (.int x2)] [] (zm_hp m) (zm_QI K) := by
  unfold j_Shape_isSevenPairs_L20 at hJ
  refine zr_iinc (d' := 1) d_Shape_isSevenPairs_20 zk_i1 rfl (Nat.le_of_ble_eq_true rfl) (fun y2 hy2 => ?_)
  have hJ := hJ y2 hy2
  refine zr_L (L' := [some (.ref r0), some (.int x1), some (.int y2)]) rfl ?_
  refine zq_goto (tgt := 4) d_Shape_isSevenPairs_23 (by decide) ?_
  refine zr_less (L' := [some (.ref r0), some (.int x1), some (.int y2)]) ⟨rfl, ⟨rfl, ⟨rfl, trivial⟩⟩⟩ ?_
  exact hR4  hJ
set_option maxHeartbeats 400000 in
theorem s_Shape_isSevenPairs_L37 {g : zk_T} {r0 : Nat} (hr0 : zm_ar r0) {K : Int32 → zm → Prop} {t0 : Int32} {m : zm} (hJ : j_Shape_isSevenPairs_L37 r0  K t0 m) : zq_V (zk_g g) ("RiichiTable$Shape", prog_4_method_5_code, 3, (some .boolean), false, zq_rm 0 0 0) 0 0 37 [some (.ref r0), none, none] [.int t0] (zm_hp m) (zm_QI K) := by
  unfold j_Shape_isSevenPairs_L37 at hJ
  exact zq_iret d_Shape_isSevenPairs_37 rfl hJ.1.nar (Nat.le_refl _) (Nat.le_refl _) ⟨_, _, rfl, rfl, hJ.2⟩
set_option maxHeartbeats 400000 in
theorem s_Shape_isSevenPairs_L4 {g : zk_T} {r0 : Nat} (hr0 : zm_ar r0) {K : Int32 → zm → Prop} : ∀ (n : Nat) {x1 : Int32} {x2 : Int32} {m : zm}, j_Shape_isSevenPairs_L4 r0  K n x1 x2 m → zq_V (zk_g g) ("RiichiTable$Shape", prog_4_method_5_code, 3, (some .boolean), false, zq_rm 0 0 0) 0 0 4 [some (.ref r0), some (.int x1), some (.int x2)] [] (zm_hp m) (zm_QI K) := by
  intro n
  induction n with
  | zero =>
    intro x1 x2 m hJ
    exact False.elim hJ
  | succ n ih =>
    intro x1 x2 m hJ
    rw [j_Shape_isSevenPairs_L4] at hJ
    refine zq_iload_n d_Shape_isSevenPairs_4 rfl rfl ?_
    refine zq_bipush (v := 34) d_Shape_isSevenPairs_5 zk_b34 ?_
    refine zq_icmp_ge (tgt := 26) d_Shape_isSevenPairs_7 (by decide) (fun c => ?_) (fun c => ?_)
    · have hJ := hJ.1 c
      refine zq_iload_n d_Shape_isSevenPairs_26 rfl rfl ?_
      refine zq_bipush (v := 7) d_Shape_isSevenPairs_27 zk_b7 ?_
      refine zq_icmp_ne (tgt := 36) d_Shape_isSevenPairs_29 (by decide) (fun c => ?_) (fun c => ?_)
      · have hJ := hJ.1 c
        refine zq_iconst (v := 0) d_Shape_isSevenPairs_36 zk_i0 ?_
        refine zr_less (L' := [some (.ref r0), none, none]) ⟨rfl, trivial⟩ ?_
        exact s_Shape_isSevenPairs_L37 hr0   hJ
      · have hJ := hJ.2 c
        refine zq_iconst (v := 1) d_Shape_isSevenPairs_32 zk_i1 ?_
        refine zq_goto (tgt := 37) d_Shape_isSevenPairs_33 (by decide) ?_
        refine zr_less (L' := [some (.ref r0), none, none]) ⟨rfl, trivial⟩ ?_
        exact s_Shape_isSevenPairs_L37 hr0   hJ
    · have hJ := hJ.2 c
      refine zq_aload_n d_Shape_isSevenPairs_10 rfl rfl ?_
      refine zq_iload_n d_Shape_isSevenPairs_11 rfl rfl ?_
      obtain ⟨hb, hJ⟩ := hJ
      refine zm_ald d_Shape_isSevenPairs_12 hr0 hb ?_
      refine zq_iconst (v := 2) d_Shape_isSevenPairs_13 zk_i2 ?_
      refine zq_icmp_ne (tgt := 20) d_Shape_isSevenPairs_14 (by decide) (fun c => ?_) (fun c => ?_)
      · have hJ := hJ.1 c
        refine zr_less (L' := [some (.ref r0), some (.int x1), some (.int x2)]) ⟨rfl, ⟨rfl, ⟨rfl, trivial⟩⟩⟩ ?_
        exact s_Shape_isSevenPairs_L20 hr0 ih  hJ
      · have hJ := hJ.2 c
        refine zr_iinc (d' := 1) d_Shape_isSevenPairs_17 zk_i1 rfl (Nat.le_of_ble_eq_true rfl) (fun y1 hy1 => ?_)
        have hJ := hJ y1 hy1
        refine zr_L (L' := [some (.ref r0), some (.int y1), some (.int x2)]) rfl ?_
        refine zr_less (L' := [some (.ref r0), some (.int y1), some (.int x2)]) ⟨rfl, ⟨rfl, ⟨rfl, trivial⟩⟩⟩ ?_
        exact s_Shape_isSevenPairs_L20 hr0 ih  hJ
set_option maxHeartbeats 400000 in
theorem s_Shape_isSevenPairs {g : zk_T} {r0 : Nat} (hr0 : zm_ar r0) {K : Int32 → zm → Prop} {m : zm} (hJ : j_Shape_isSevenPairs r0 m K) : zq_Mt (zk_g g) y_Shape_isSevenPairs 0 0 0 [.ref r0] (zm_hp m) (zm_QI K) := by
  unfold j_Shape_isSevenPairs at hJ
  refine zq_meth (ini := false) rfl (fun h => by cases h) (Nat.le_of_ble_eq_true rfl) ?_
  refine zr_L (F := ("RiichiTable$Shape", prog_4_method_5_code, 3, (some .boolean), false, zq_rm 0 0 0)) (L' := [some (.ref r0), none, none]) rfl ?_
  refine zq_iconst (v := 0) d_Shape_isSevenPairs_0 zk_i0 ?_
  refine zr_istore_n (L' := [some (.ref r0), some (.int 0), none]) d_Shape_isSevenPairs_1 rfl (Nat.le_of_ble_eq_true rfl) rfl ?_
  refine zq_iconst (v := 0) d_Shape_isSevenPairs_2 zk_i0 ?_
  refine zr_istore_n (L' := [some (.ref r0), some (.int 0), some (.int 0)]) d_Shape_isSevenPairs_3 rfl (Nat.le_of_ble_eq_true rfl) rfl ?_
  refine zr_less (L' := [some (.ref r0), some (.int 0), some (.int 0)]) ⟨rfl, ⟨rfl, ⟨rfl, trivial⟩⟩⟩ ?_
  obtain ⟨n4, hJ⟩ := hJ
  exact s_Shape_isSevenPairs_L4 hr0  n4  hJ
set_option maxHeartbeats 400000 in
theorem s_Splitter_keepWay_L84 {g : zk_T} {K : zm → Prop} {m : zm} (hJ : j_Splitter_keepWay_L84   K  m) : zq_V (zk_g g) ("RiichiTable$Splitter", prog_5_method_9_code, 2, none, false, zq_rm 0 0 0) 0 0 84 [some (.ref 3), none] [] (zm_hp m) (zm_QV K) := by
  unfold j_Splitter_keepWay_L84 at hJ
  exact zq_vret d_Splitter_keepWay_84 rfl (Nat.le_refl _) (Nat.le_refl _) ⟨_, rfl, rfl, hJ⟩
set_option maxHeartbeats 400000 in
theorem s_Splitter_keepWay_L27 {g : zk_T} {K : zm → Prop} : ∀ (n : Nat) {x1 : Int32} {m : zm}, j_Splitter_keepWay_L27   K n x1 m → zq_V (zk_g g) ("RiichiTable$Splitter", prog_5_method_9_code, 2, none, false, zq_rm 0 0 0) 0 0 27 [some (.ref 3), some (.int x1)] [] (zm_hp m) (zm_QV K) := by
  intro n
  induction n with
  | zero =>
    intro x1 m hJ
    exact False.elim hJ
  | succ n ih =>
    intro x1 m hJ
    rw [j_Splitter_keepWay_L27] at hJ
    refine zq_iload_n d_Splitter_keepWay_27 rfl rfl ?_
    refine zq_iconst (v := 4) d_Splitter_keepWay_28 zk_i4 ?_
    refine zq_icmp_ge (tgt := 57) d_Splitter_keepWay_29 (by decide) (fun c => ?_) (fun c => ?_)
    · have hJ := hJ.1 c
      refine zq_aload_n d_Splitter_keepWay_57 rfl rfl ?_
      refine zm_getR fg_Splitter_18 d_Splitter_keepWay_58 zs_Splitter rfl ?_
      refine zq_aload_n d_Splitter_keepWay_61 rfl rfl ?_
      refine zm_getI fg_Splitter_40 d_Splitter_keepWay_62 zs_Splitter rfl ?_
      refine zq_iconst (v := 5) d_Splitter_keepWay_65 zk_i5 ?_
      refine zq_imul d_Splitter_keepWay_66 ?_
      refine zq_iconst (v := 4) d_Splitter_keepWay_67 zk_i4 ?_
      refine zq_iadd d_Splitter_keepWay_68 ?_
      refine zq_aload_n d_Splitter_keepWay_69 rfl rfl ?_
      refine zm_getI fg_Splitter_37 d_Splitter_keepWay_70 zs_Splitter rfl ?_
      obtain ⟨hb, hJ⟩ := hJ
      refine zr_ast d_Splitter_keepWay_73 (rfl : zm_sh[6]? = some (.inl (0, 40, .inl (fun _ => 0)))) hb (fun m1 hm1 => ?_)
      have hJ := hJ m1 hm1
      refine zq_aload_n d_Splitter_keepWay_74 rfl rfl ?_
      refine zq_dup d_Splitter_keepWay_75 rfl ?_
      refine zm_getI fg_Splitter_40 d_Splitter_keepWay_76 zs_Splitter rfl ?_
      refine zq_iconst (v := 1) d_Splitter_keepWay_79 zk_i1 ?_
      refine zq_iadd d_Splitter_keepWay_80 ?_
      refine zr_putI fl_Splitter_40 d_Splitter_keepWay_81 zs_Splitter rfl rfl (fun m2 hm2 => ?_)
      have hJ := hJ m2 hm2
      refine zr_less (L' := [some (.ref 3), none]) ⟨rfl, trivial⟩ ?_
      exact s_Splitter_keepWay_L84    hJ
    · have hJ := hJ.2 c
      refine zq_aload_n d_Splitter_keepWay_32 rfl rfl ?_
      refine zm_getR fg_Splitter_18 d_Splitter_keepWay_33 zs_Splitter rfl ?_
      refine zq_aload_n d_Splitter_keepWay_36 rfl rfl ?_
      refine zm_getI fg_Splitter_40 d_Splitter_keepWay_37 zs_Splitter rfl ?_
      refine zq_iconst (v := 5) d_Splitter_keepWay_40 zk_i5 ?_
      refine zq_imul d_Splitter_keepWay_41 ?_
      refine zq_iload_n d_Splitter_keepWay_42 rfl rfl ?_
      refine zq_iadd d_Splitter_keepWay_43 ?_
      refine zq_aload_n d_Splitter_keepWay_44 rfl rfl ?_
      refine zm_getR fg_Splitter_15 d_Splitter_keepWay_45 zs_Splitter rfl ?_
      refine zq_iload_n d_Splitter_keepWay_48 rfl rfl ?_
      obtain ⟨hb, hJ⟩ := hJ
      refine zm_ald d_Splitter_keepWay_49 (rfl : zm_sh[5]? = some (.inl (0, 4, .inl (fun _ => 0)))) hb ?_
      obtain ⟨hb, hJ⟩ := hJ
      refine zr_ast d_Splitter_keepWay_50 (rfl : zm_sh[6]? = some (.inl (0, 40, .inl (fun _ => 0)))) hb (fun m3 hm3 => ?_)
      have hJ := hJ m3 hm3
      refine zr_iinc (d' := 1) d_Splitter_keepWay_51 zk_i1 rfl (Nat.le_of_ble_eq_true rfl) (fun y4 hy4 => ?_)
      have hJ := hJ y4 hy4
      refine zr_L (L' := [some (.ref 3), some (.int y4)]) rfl ?_
      refine zq_goto (tgt := 27) d_Splitter_keepWay_54 (by decide) ?_
      refine zr_less (L' := [some (.ref 3), some (.int y4)]) ⟨rfl, ⟨rfl, trivial⟩⟩ ?_
      exact ih  hJ
set_option maxHeartbeats 400000 in
theorem s_Splitter_keepWay {g : zk_T} {K : zm → Prop} {m : zm} (hJ : j_Splitter_keepWay  m K) : zq_Mt (zk_g g) y_Splitter_keepWay 0 0 0 [.ref 3] (zm_hp m) (zm_QV K) := by
  unfold j_Splitter_keepWay at hJ
  refine zq_meth (ini := false) rfl (fun h => by cases h) (Nat.le_of_ble_eq_true rfl) ?_
  refine zr_L (F := ("RiichiTable$Splitter", prog_5_method_9_code, 2, none, false, zq_rm 0 0 0)) (L' := [some (.ref 3), none]) rfl ?_
  refine zq_aload_n d_Splitter_keepWay_0 rfl rfl ?_
  refine zm_getI fg_Splitter_21 d_Splitter_keepWay_1 zs_Splitter rfl ?_
  refine zq_iconst (v := 4) d_Splitter_keepWay_4 zk_i4 ?_
  refine zq_icmp_ne (tgt := 84) d_Splitter_keepWay_5 (by decide) (fun c => ?_) (fun c => ?_)
  · have hJ := hJ.1 c
    refine zr_less (L' := [some (.ref 3), none]) ⟨rfl, trivial⟩ ?_
    exact s_Splitter_keepWay_L84    hJ
  · have hJ := hJ.2 c
    refine zq_aload_n d_Splitter_keepWay_8 rfl rfl ?_
    refine zm_getI fg_Splitter_37 d_Splitter_keepWay_9 zs_Splitter rfl ?_
    refine zq_iconst (v := (-1)) d_Splitter_keepWay_12 zk_im1 ?_
    refine zq_icmp_eq (tgt := 84) d_Splitter_keepWay_13 (by decide) (fun c => ?_) (fun c => ?_)
    · have hJ := hJ.1 c
      refine zr_less (L' := [some (.ref 3), none]) ⟨rfl, trivial⟩ ?_
      exact s_Splitter_keepWay_L84    hJ
    · have hJ := hJ.2 c
      refine zq_aload_n d_Splitter_keepWay_16 rfl rfl ?_
      refine zm_getI fg_Splitter_40 d_Splitter_keepWay_17 zs_Splitter rfl ?_
      refine zq_bipush (v := 8) d_Splitter_keepWay_20 zk_b8 ?_
      refine zq_icmp_ge (tgt := 84) d_Splitter_keepWay_22 (by decide) (fun c => ?_) (fun c => ?_)
      · have hJ := hJ.1 c
        refine zr_less (L' := [some (.ref 3), none]) ⟨rfl, trivial⟩ ?_
        exact s_Splitter_keepWay_L84    hJ
      · have hJ := hJ.2 c
        refine zq_iconst (v := 0) d_Splitter_keepWay_25 zk_i0 ?_
        refine zr_istore_n (L' := [some (.ref 3), some (.int 0)]) d_Splitter_keepWay_26 rfl (Nat.le_of_ble_eq_true rfl) rfl ?_
        refine zr_less (L' := [some (.ref 3), some (.int 0)]) ⟨rfl, ⟨rfl, trivial⟩⟩ ?_
        obtain ⟨n27, hJ⟩ := hJ
        exact s_Splitter_keepWay_L27   n27  hJ
set_option maxHeartbeats 400000 in
theorem s_Splitter_hasRuns_L48 {g : zk_T} {a1 : Int32} {a2 : Int32} {K : Int32 → zm → Prop} {t0 : Int32} {m : zm} (hJ : j_Splitter_hasRuns_L48 a1 a2  K t0 m) : zq_V (zk_g g) ("RiichiTable$Splitter", prog_5_method_6_code, 3, (some .boolean), false, zq_rm 0 0 0) 0 0 48 [some (.ref 3), some (.int a1), some (.int a2)] [.int t0] (zm_hp m) (zm_QI K) := by
  unfold j_Splitter_hasRuns_L48 at hJ
  exact zq_iret d_Splitter_hasRuns_48 rfl hJ.1.nar (Nat.le_refl _) (Nat.le_refl _) ⟨_, _, rfl, rfl, hJ.2⟩
set_option maxHeartbeats 400000 in
theorem s_Splitter_hasRuns_L43 {g : zk_T} {a1 : Int32} {a2 : Int32} {K : Int32 → zm → Prop} {m : zm} (hJ : j_Splitter_hasRuns_L43 a1 a2  K  m) : zq_V (zk_g g) ("RiichiTable$Splitter", prog_5_method_6_code, 3, (some .boolean), false, zq_rm 0 0 0) 0 0 43 [some (.ref 3), some (.int a1), some (.int a2)] [] (zm_hp m) (zm_QI K) := by
  unfold j_Splitter_hasRuns_L43 at hJ
  refine zq_iconst (v := 1) d_Splitter_hasRuns_43 zk_i1 ?_
  refine zq_goto (tgt := 48) d_Splitter_hasRuns_44 (by decide) ?_
  refine zr_less (L' := [some (.ref 3), some (.int a1), some (.int a2)]) ⟨rfl, ⟨rfl, ⟨rfl, trivial⟩⟩⟩ ?_
  exact s_Splitter_hasRuns_L48    hJ
set_option maxHeartbeats 400000 in
theorem s_Splitter_hasRuns_L47 {g : zk_T} {a1 : Int32} {a2 : Int32} {K : Int32 → zm → Prop} {m : zm} (hJ : j_Splitter_hasRuns_L47 a1 a2  K  m) : zq_V (zk_g g) ("RiichiTable$Splitter", prog_5_method_6_code, 3, (some .boolean), false, zq_rm 0 0 0) 0 0 47 [some (.ref 3), some (.int a1), some (.int a2)] [] (zm_hp m) (zm_QI K) := by
  unfold j_Splitter_hasRuns_L47 at hJ
  refine zq_iconst (v := 0) d_Splitter_hasRuns_47 zk_i0 ?_
  refine zr_less (L' := [some (.ref 3), some (.int a1), some (.int a2)]) ⟨rfl, ⟨rfl, ⟨rfl, trivial⟩⟩⟩ ?_
  exact s_Splitter_hasRuns_L48    hJ
set_option maxHeartbeats 400000 in
theorem s_Splitter_hasRuns {g : zk_T} {a1 : Int32} {a2 : Int32} {K : Int32 → zm → Prop} {m : zm} (hJ : j_Splitter_hasRuns a1 a2 m K) : zq_Mt (zk_g g) y_Splitter_hasRuns 0 0 0 [.ref 3, .int a1, .int a2] (zm_hp m) (zm_QI K) := by
  unfold j_Splitter_hasRuns at hJ
  refine zq_meth (ini := false) rfl (fun h => by cases h) (Nat.le_of_ble_eq_true rfl) ?_
  refine zr_L (F := ("RiichiTable$Splitter", prog_5_method_6_code, 3, (some .boolean), false, zq_rm 0 0 0)) (L' := [some (.ref 3), some (.int a1), some (.int a2)]) rfl ?_
  refine zq_iload_n d_Splitter_hasRuns_0 rfl rfl ?_
  refine zq_if_eq (tgt := 43) d_Splitter_hasRuns_1 (by decide) (fun c => ?_) (fun c => ?_)
  · have hJ := hJ.1 c
    refine zr_less (L' := [some (.ref 3), some (.int a1), some (.int a2)]) ⟨rfl, ⟨rfl, ⟨rfl, trivial⟩⟩⟩ ?_
    exact s_Splitter_hasRuns_L43    hJ
  · have hJ := hJ.2 c
    refine zq_iload_n d_Splitter_hasRuns_4 rfl rfl ?_
    refine zq_bipush (v := 27) d_Splitter_hasRuns_5 zk_b27 ?_
    refine zq_icmp_ge (tgt := 47) d_Splitter_hasRuns_7 (by decide) (fun c => ?_) (fun c => ?_)
    · have hJ := hJ.1 c
      refine zr_less (L' := [some (.ref 3), some (.int a1), some (.int a2)]) ⟨rfl, ⟨rfl, ⟨rfl, trivial⟩⟩⟩ ?_
      exact s_Splitter_hasRuns_L47    hJ
    · have hJ := hJ.2 c
      refine zq_iload_n d_Splitter_hasRuns_10 rfl rfl ?_
      refine zq_bipush (v := 9) d_Splitter_hasRuns_11 zk_b9 ?_
      refine zq_irem d_Splitter_hasRuns_13 (by decide) ?_
      refine zq_bipush (v := 6) d_Splitter_hasRuns_14 zk_b6 ?_
      refine zq_icmp_gt (tgt := 47) d_Splitter_hasRuns_16 (by decide) (fun c => ?_) (fun c => ?_)
      · have hJ := hJ.1 c
        refine zr_less (L' := [some (.ref 3), some (.int a1), some (.int a2)]) ⟨rfl, ⟨rfl, ⟨rfl, trivial⟩⟩⟩ ?_
        exact s_Splitter_hasRuns_L47    hJ
      · have hJ := hJ.2 c
        refine zq_aload_n d_Splitter_hasRuns_19 rfl rfl ?_
        refine zm_getR fg_Splitter_9 d_Splitter_hasRuns_20 zs_Splitter rfl ?_
        refine zq_iload_n d_Splitter_hasRuns_23 rfl rfl ?_
        refine zq_iconst (v := 1) d_Splitter_hasRuns_24 zk_i1 ?_
        refine zq_iadd d_Splitter_hasRuns_25 ?_
        obtain ⟨hb, hJ⟩ := hJ
        refine zm_ald d_Splitter_hasRuns_26 (rfl : zm_sh[4]? = some (.inl (0, 34, .inl (fun _ => 0)))) hb ?_
        refine zq_iload_n d_Splitter_hasRuns_27 rfl rfl ?_
        refine zq_icmp_lt (tgt := 47) d_Splitter_hasRuns_28 (by decide) (fun c => ?_) (fun c => ?_)
        · have hJ := hJ.1 c
          refine zr_less (L' := [some (.ref 3), some (.int a1), some (.int a2)]) ⟨rfl, ⟨rfl, ⟨rfl, trivial⟩⟩⟩ ?_
          exact s_Splitter_hasRuns_L47    hJ
        · have hJ := hJ.2 c
          refine zq_aload_n d_Splitter_hasRuns_31 rfl rfl ?_
          refine zm_getR fg_Splitter_9 d_Splitter_hasRuns_32 zs_Splitter rfl ?_
          refine zq_iload_n d_Splitter_hasRuns_35 rfl rfl ?_
          refine zq_iconst (v := 2) d_Splitter_hasRuns_36 zk_i2 ?_
          refine zq_iadd d_Splitter_hasRuns_37 ?_
          obtain ⟨hb, hJ⟩ := hJ
          refine zm_ald d_Splitter_hasRuns_38 (rfl : zm_sh[4]? = some (.inl (0, 34, .inl (fun _ => 0)))) hb ?_
          refine zq_iload_n d_Splitter_hasRuns_39 rfl rfl ?_
          refine zq_icmp_lt (tgt := 47) d_Splitter_hasRuns_40 (by decide) (fun c => ?_) (fun c => ?_)
          · have hJ := hJ.1 c
            refine zr_less (L' := [some (.ref 3), some (.int a1), some (.int a2)]) ⟨rfl, ⟨rfl, ⟨rfl, trivial⟩⟩⟩ ?_
            exact s_Splitter_hasRuns_L47    hJ
          · have hJ := hJ.2 c
            refine zr_less (L' := [some (.ref 3), some (.int a1), some (.int a2)]) ⟨rfl, ⟨rfl, ⟨rfl, trivial⟩⟩⟩ ?_
            exact s_Splitter_hasRuns_L43    hJ
set_option maxHeartbeats 400000 in
theorem s_Splitter_removeBehind_L36 {g : zk_T} {a1 : Int32} {a2 : Int32} {K : zm → Prop} {m : zm} (hJ : j_Splitter_removeBehind_L36 a1 a2  K  m) : zq_V (zk_g g) ("RiichiTable$Splitter", prog_5_method_7_code, 3, none, false, zq_rm 0 0 0) 0 0 36 [some (.ref 3), some (.int a1), some (.int a2)] [] (zm_hp m) (zm_QV K) := by
  unfold j_Splitter_removeBehind_L36 at hJ
  exact zq_vret d_Splitter_removeBehind_36 rfl (Nat.le_refl _) (Nat.le_refl _) ⟨_, rfl, rfl, hJ⟩
set_option maxHeartbeats 400000 in
theorem s_Splitter_removeBehind {g : zk_T} {a1 : Int32} {a2 : Int32} {K : zm → Prop} {m : zm} (hJ : j_Splitter_removeBehind a1 a2 m K) : zq_Mt (zk_g g) y_Splitter_removeBehind 0 0 0 [.ref 3, .int a1, .int a2] (zm_hp m) (zm_QV K) := by
  unfold j_Splitter_removeBehind at hJ
  refine zq_meth (ini := false) rfl (fun h => by cases h) (Nat.le_of_ble_eq_true rfl) ?_
  refine zr_L (F := ("RiichiTable$Splitter", prog_5_method_7_code, 3, none, false, zq_rm 0 0 0)) (L' := [some (.ref 3), some (.int a1), some (.int a2)]) rfl ?_
  refine zq_iload_n d_Splitter_removeBehind_0 rfl rfl ?_
  refine zq_if_eq (tgt := 36) d_Splitter_removeBehind_1 (by decide) (fun c => ?_) (fun c => ?_)
  · have hJ := hJ.1 c
    refine zr_less (L' := [some (.ref 3), some (.int a1), some (.int a2)]) ⟨rfl, ⟨rfl, ⟨rfl, trivial⟩⟩⟩ ?_
    exact s_Splitter_removeBehind_L36    hJ
  · have hJ := hJ.2 c
    refine zq_iload_n d_Splitter_removeBehind_4 rfl rfl ?_
    refine zq_iconst (v := 2) d_Splitter_removeBehind_5 zk_i2 ?_
    refine zq_iadd d_Splitter_removeBehind_6 ?_
    refine zq_bipush (v := 34) d_Splitter_removeBehind_7 zk_b34 ?_
    refine zq_icmp_ge (tgt := 36) d_Splitter_removeBehind_9 (by decide) (fun c => ?_) (fun c => ?_)
    · have hJ := hJ.1 c
      refine zr_less (L' := [some (.ref 3), some (.int a1), some (.int a2)]) ⟨rfl, ⟨rfl, ⟨rfl, trivial⟩⟩⟩ ?_
      exact s_Splitter_removeBehind_L36    hJ
    · have hJ := hJ.2 c
      refine zq_aload_n d_Splitter_removeBehind_12 rfl rfl ?_
      refine zm_getR fg_Splitter_9 d_Splitter_removeBehind_13 zs_Splitter rfl ?_
      refine zq_iload_n d_Splitter_removeBehind_16 rfl rfl ?_
      refine zq_iconst (v := 1) d_Splitter_removeBehind_17 zk_i1 ?_
      refine zq_iadd d_Splitter_removeBehind_18 ?_
      refine zq_dup2 d_Splitter_removeBehind_19 rfl rfl ?_
      obtain ⟨hb, hJ⟩ := hJ
      refine zm_ald d_Splitter_removeBehind_20 (rfl : zm_sh[4]? = some (.inl (0, 34, .inl (fun _ => 0)))) hb ?_
      refine zq_iload_n d_Splitter_removeBehind_21 rfl rfl ?_
      refine zq_isub d_Splitter_removeBehind_22 ?_
      obtain ⟨hb, hJ⟩ := hJ
      refine zr_ast d_Splitter_removeBehind_23 (rfl : zm_sh[4]? = some (.inl (0, 34, .inl (fun _ => 0)))) hb (fun m1 hm1 => ?_)
      have hJ := hJ m1 hm1
      refine zq_aload_n d_Splitter_removeBehind_24 rfl rfl ?_
      refine zm_getR fg_Splitter_9 d_Splitter_removeBehind_25 zs_Splitter rfl ?_
      refine zq_iload_n d_Splitter_removeBehind_28 rfl rfl ?_
      refine zq_iconst (v := 2) d_Splitter_removeBehind_29 zk_i2 ?_
      refine zq_iadd d_Splitter_removeBehind_30 ?_
      refine zq_dup2 d_Splitter_removeBehind_31 rfl rfl ?_
      obtain ⟨hb, hJ⟩ := hJ
      refine zm_ald d_Splitter_removeBehind_32 (rfl : zm_sh[4]? = some (.inl (0, 34, .inl (fun _ => 0)))) hb ?_
      refine zq_iload_n d_Splitter_removeBehind_33 rfl rfl ?_
      refine zq_isub d_Splitter_removeBehind_34 ?_
      obtain ⟨hb, hJ⟩ := hJ
      refine zr_ast d_Splitter_removeBehind_35 (rfl : zm_sh[4]? = some (.inl (0, 34, .inl (fun _ => 0)))) hb (fun m2 hm2 => ?_)
      have hJ := hJ m2 hm2
      refine zr_less (L' := [some (.ref 3), some (.int a1), some (.int a2)]) ⟨rfl, ⟨rfl, ⟨rfl, trivial⟩⟩⟩ ?_
      exact s_Splitter_removeBehind_L36    hJ
set_option maxHeartbeats 400000 in
theorem s_Splitter_tryParts_L44 {g : zk_T} {f : Nat} {TA : Int32 → Int32 → zm → (zm → Prop) → Prop} {a1 : Int32} {a2 : Int32} {a3 : Int32} {a4 : Int32} (hTA : ∀ {a b : Int32} {m : zm} {K : zm → Prop}, TA a b m K → zq_Mt (zk_g g) y_Splitter_takeApart (2 * f) 0 0 [.ref 3, .int a, .int b] (zm_hp m) (zm_QV K)) {K : zm → Prop} {m : zm} (hJ : j_Splitter_tryParts_L44 TA a1 a2 a3 a4  K  m) : zq_V (zk_g g) ("RiichiTable$Splitter", prog_5_method_5_code, 8, none, false, zq_rm (2 * f + 1) 0 0) 0 0 44 [some (.ref 3), some (.int a1), some (.int a2), some (.int a3), some (.int a4), none, none, none] [] (zm_hp m) (zm_QV K) := by
  unfold j_Splitter_tryParts_L44 at hJ
  exact zq_vret d_Splitter_tryParts_44 rfl (Nat.le_refl _) (Nat.le_refl _) ⟨_, rfl, rfl, hJ⟩
set_option maxHeartbeats 400000 in
theorem s_Splitter_tryParts_L67 {g : zk_T} {f : Nat} {TA : Int32 → Int32 → zm → (zm → Prop) → Prop} {a1 : Int32} {a2 : Int32} {a3 : Int32} {a4 : Int32} (hTA : ∀ {a b : Int32} {m : zm} {K : zm → Prop}, TA a b m K → zq_Mt (zk_g g) y_Splitter_takeApart (2 * f) 0 0 [.ref 3, .int a, .int b] (zm_hp m) (zm_QV K)) {K : zm → Prop} {x5 : Int32} {x6 : Int32} {x7 : Int32} {m : zm} (hJ : j_Splitter_tryParts_L67 TA a1 a2 a3 a4  K x5 x6 x7 m) : zq_V (zk_g g) ("RiichiTable$Splitter", prog_5_method_5_code, 8, none, false, zq_rm (2 * f + 1) 0 0) 0 0 67 [some (.ref 3), some (.int a1), some (.int a2), some (.int a3), some (.int a4), some (.int x5), some (.int x6), some (.int x7)] [] (zm_hp m) (zm_QV K) := by
  unfold j_Splitter_tryParts_L67 at hJ
  refine zq_aload_n d_Splitter_tryParts_67 rfl rfl ?_
  refine zq_iconst (v := 4) d_Splitter_tryParts_68 zk_i4 ?_
  refine zq_iload_n d_Splitter_tryParts_69 rfl rfl ?_
  refine zq_imul d_Splitter_tryParts_70 ?_
  refine zq_iconst (v := 1) d_Splitter_tryParts_71 zk_i1 ?_
  refine zq_iadd d_Splitter_tryParts_72 ?_
  refine zq_iload_n d_Splitter_tryParts_73 rfl rfl ?_
  refine zr_cvV (q := 3) (as := [.int ((4 * a1) + 1), .int a2]) (st := []) d_Splitter_tryParts_74 cc_Splitter_33 cv_Splitter_addSets zs_Splitter (s_Splitter_addSets  hJ) rfl ⟨by show _ ≤ (2 * f + 1); omega, by show _ ≤ (2 * f + 1) * 100; omega⟩ (Nat.le_of_ble_eq_true rfl) ⟨Nat.le_refl _, Nat.le_refl _⟩ rfl (fun m7 hJ => ?_)
  refine zq_aload_n d_Splitter_tryParts_77 rfl rfl ?_
  refine zq_iconst (v := 4) d_Splitter_tryParts_78 zk_i4 ?_
  refine zq_iload_n d_Splitter_tryParts_79 rfl rfl ?_
  refine zq_imul d_Splitter_tryParts_80 ?_
  refine zq_iconst (v := 0) d_Splitter_tryParts_81 zk_i0 ?_
  refine zq_iadd d_Splitter_tryParts_82 ?_
  refine zq_iload d_Splitter_tryParts_83 rfl ?_
  refine zr_cvV (q := 3) (as := [.int ((4 * a1) + 0), .int x5]) (st := []) d_Splitter_tryParts_85 cc_Splitter_33 cv_Splitter_addSets zs_Splitter (s_Splitter_addSets  hJ) rfl ⟨by show _ ≤ (2 * f + 1); omega, by show _ ≤ (2 * f + 1) * 100; omega⟩ (Nat.le_of_ble_eq_true rfl) ⟨Nat.le_refl _, Nat.le_refl _⟩ rfl (fun m8 hJ => ?_)
  refine zq_aload_n d_Splitter_tryParts_88 rfl rfl ?_
  refine zq_iload_n d_Splitter_tryParts_89 rfl rfl ?_
  refine zq_iload d_Splitter_tryParts_90 rfl ?_
  refine zr_cvV (q := 3) (as := [.int a1, .int x5]) (st := []) d_Splitter_tryParts_92 cc_Splitter_57 cv_Splitter_removeBehind zs_Splitter (s_Splitter_removeBehind  hJ) rfl ⟨by show _ ≤ (2 * f + 1); omega, by show _ ≤ (2 * f + 1) * 100; omega⟩ (Nat.le_of_ble_eq_true rfl) ⟨Nat.le_refl _, Nat.le_refl _⟩ rfl (fun m9 hJ => ?_)
  refine zq_aload_n d_Splitter_tryParts_95 rfl rfl ?_
  refine zq_iload_n d_Splitter_tryParts_96 rfl rfl ?_
  refine zq_iconst (v := 1) d_Splitter_tryParts_97 zk_i1 ?_
  refine zq_iadd d_Splitter_tryParts_98 ?_
  refine zq_iload d_Splitter_tryParts_99 rfl ?_
  refine zq_iconst (v := 1) d_Splitter_tryParts_101 zk_i1 ?_
  refine zq_iadd d_Splitter_tryParts_102 ?_
  refine zr_cvV (q := 3) (as := [.int (a1 + 1), .int (a4 + 1)]) (st := []) d_Splitter_tryParts_103 cc_Splitter_43 cv_Splitter_takeApart zs_Splitter (hTA  hJ) rfl ⟨by show _ ≤ (2 * f + 1); omega, by show _ ≤ (2 * f + 1) * 100; omega⟩ (Nat.le_of_ble_eq_true rfl) ⟨Nat.le_refl _, Nat.le_refl _⟩ rfl (fun m10 hJ => ?_)
  refine zq_aload_n d_Splitter_tryParts_106 rfl rfl ?_
  refine zq_iload_n d_Splitter_tryParts_107 rfl rfl ?_
  refine zq_iload d_Splitter_tryParts_108 rfl ?_
  refine zq_ineg d_Splitter_tryParts_110 ?_
  refine zr_cvV (q := 3) (as := [.int a1, .int (-x5)]) (st := []) d_Splitter_tryParts_111 cc_Splitter_57 cv_Splitter_removeBehind zs_Splitter (s_Splitter_removeBehind  hJ) rfl ⟨by show _ ≤ (2 * f + 1); omega, by show _ ≤ (2 * f + 1) * 100; omega⟩ (Nat.le_of_ble_eq_true rfl) ⟨Nat.le_refl _, Nat.le_refl _⟩ rfl (fun m11 hJ => ?_)
  refine zq_aload_n d_Splitter_tryParts_114 rfl rfl ?_
  refine zq_iload d_Splitter_tryParts_115 rfl ?_
  refine zr_putI fl_Splitter_21 d_Splitter_tryParts_117 zs_Splitter rfl rfl (fun m12 hm12 => ?_)
  have hJ := hJ m12 hm12
  refine zq_aload_n d_Splitter_tryParts_120 rfl rfl ?_
  refine zq_iload d_Splitter_tryParts_121 rfl ?_
  refine zr_putI fl_Splitter_37 d_Splitter_tryParts_123 zs_Splitter rfl rfl (fun m13 hm13 => ?_)
  have hJ := hJ m13 hm13
  exact zq_vret d_Splitter_tryParts_126 rfl (Nat.le_refl _) (Nat.le_refl _) ⟨_, rfl, rfl, hJ⟩
set_option maxHeartbeats 400000 in
theorem s_Splitter_tryParts_L34 {g : zk_T} {f : Nat} {TA : Int32 → Int32 → zm → (zm → Prop) → Prop} {a1 : Int32} {a2 : Int32} {a3 : Int32} {a4 : Int32} (hTA : ∀ {a b : Int32} {m : zm} {K : zm → Prop}, TA a b m K → zq_Mt (zk_g g) y_Splitter_takeApart (2 * f) 0 0 [.ref 3, .int a, .int b] (zm_hp m) (zm_QV K)) {K : zm → Prop} {x5 : Int32} {m : zm} (hJ : j_Splitter_tryParts_L34 TA a1 a2 a3 a4  K x5 m) : zq_V (zk_g g) ("RiichiTable$Splitter", prog_5_method_5_code, 8, none, false, zq_rm (2 * f + 1) 0 0) 0 0 34 [some (.ref 3), some (.int a1), some (.int a2), some (.int a3), some (.int a4), some (.int x5), none, none] [] (zm_hp m) (zm_QV K) := by
  unfold j_Splitter_tryParts_L34 at hJ
  refine zq_aload_n d_Splitter_tryParts_34 rfl rfl ?_
  refine zq_iload_n d_Splitter_tryParts_35 rfl rfl ?_
  refine zq_iload d_Splitter_tryParts_36 rfl ?_
  refine zr_cvI (q := 3) (as := [.int a1, .int x5]) (st := []) d_Splitter_tryParts_38 cc_Splitter_53 cv_Splitter_hasRuns zs_Splitter (s_Splitter_hasRuns  hJ) rfl ⟨by show _ ≤ (2 * f + 1); omega, by show _ ≤ (2 * f + 1) * 100; omega⟩ (Nat.le_of_ble_eq_true rfl) ⟨Nat.le_refl _, Nat.le_refl _⟩ rfl (fun r3 m2 hJ => ?_)
  refine zq_if_ne (tgt := 45) d_Splitter_tryParts_41 (by decide) (fun c => ?_) (fun c => ?_)
  · have hJ := hJ.1 c
    refine zq_aload_n d_Splitter_tryParts_45 rfl rfl ?_
    refine zm_getI fg_Splitter_37 d_Splitter_tryParts_46 zs_Splitter rfl ?_
    refine zr_topi (fun y4 hy4 => ?_)
    have hJ := hJ y4 hy4
    refine zr_istore (L' := [some (.ref 3), some (.int a1), some (.int a2), some (.int a3), some (.int a4), some (.int x5), some (.int y4), none]) d_Splitter_tryParts_49 (Nat.le_of_ble_eq_true rfl) rfl ?_
    refine zq_aload_n d_Splitter_tryParts_51 rfl rfl ?_
    refine zm_getI fg_Splitter_21 d_Splitter_tryParts_52 zs_Splitter rfl ?_
    refine zr_topi (fun y5 hy5 => ?_)
    have hJ := hJ y5 hy5
    refine zr_istore (L' := [some (.ref 3), some (.int a1), some (.int a2), some (.int a3), some (.int a4), some (.int x5), some (.int y4), some (.int y5)]) d_Splitter_tryParts_55 (Nat.le_of_ble_eq_true rfl) rfl ?_
    refine zq_iload_n d_Splitter_tryParts_57 rfl rfl ?_
    refine zq_iconst (v := 1) d_Splitter_tryParts_58 zk_i1 ?_
    refine zq_icmp_ne (tgt := 67) d_Splitter_tryParts_59 (by decide) (fun c => ?_) (fun c => ?_)
    · have hJ := hJ.1 c
      refine zr_less (L' := [some (.ref 3), some (.int a1), some (.int a2), some (.int a3), some (.int a4), some (.int x5), some (.int y4), some (.int y5)]) ⟨rfl, ⟨rfl, ⟨rfl, ⟨rfl, ⟨rfl, ⟨rfl, ⟨rfl, ⟨rfl, trivial⟩⟩⟩⟩⟩⟩⟩⟩ ?_
      exact s_Splitter_tryParts_L67  hTA   hJ
    · have hJ := hJ.2 c
      refine zq_aload_n d_Splitter_tryParts_62 rfl rfl ?_
      refine zq_iload_n d_Splitter_tryParts_63 rfl rfl ?_
      refine zr_putI fl_Splitter_37 d_Splitter_tryParts_64 zs_Splitter rfl rfl (fun m6 hm6 => ?_)
      have hJ := hJ m6 hm6
      refine zr_less (L' := [some (.ref 3), some (.int a1), some (.int a2), some (.int a3), some (.int a4), some (.int x5), some (.int y4), some (.int y5)]) ⟨rfl, ⟨rfl, ⟨rfl, ⟨rfl, ⟨rfl, ⟨rfl, ⟨rfl, ⟨rfl, trivial⟩⟩⟩⟩⟩⟩⟩⟩ ?_
      exact s_Splitter_tryParts_L67  hTA   hJ
  · have hJ := hJ.2 c
    refine zr_less (L' := [some (.ref 3), some (.int a1), some (.int a2), some (.int a3), some (.int a4), none, none, none]) ⟨rfl, ⟨rfl, ⟨rfl, ⟨rfl, ⟨rfl, trivial⟩⟩⟩⟩⟩ ?_
    exact s_Splitter_tryParts_L44  hTA   hJ
set_option maxHeartbeats 400000 in
theorem s_Splitter_tryParts {g : zk_T} {f : Nat} {TA : Int32 → Int32 → zm → (zm → Prop) → Prop} {a1 : Int32} {a2 : Int32} {a3 : Int32} {a4 : Int32} (hTA : ∀ {a b : Int32} {m : zm} {K : zm → Prop}, TA a b m K → zq_Mt (zk_g g) y_Splitter_takeApart (2 * f) 0 0 [.ref 3, .int a, .int b] (zm_hp m) (zm_QV K)) {K : zm → Prop} {m : zm} (hJ : j_Splitter_tryParts TA a1 a2 a3 a4 m K) : zq_Mt (zk_g g) y_Splitter_tryParts (2 * f + 1) 0 0 [.ref 3, .int a1, .int a2, .int a3, .int a4] (zm_hp m) (zm_QV K) := by
  unfold j_Splitter_tryParts at hJ
  refine zq_meth (ini := false) rfl (fun h => by cases h) (Nat.le_of_ble_eq_true rfl) ?_
  refine zr_L (F := ("RiichiTable$Splitter", prog_5_method_5_code, 8, none, false, zq_rm (2 * f + 1) 0 0)) (L' := [some (.ref 3), some (.int a1), some (.int a2), some (.int a3), some (.int a4), none, none, none]) rfl ?_
  refine zq_aload_n d_Splitter_tryParts_0 rfl rfl ?_
  refine zm_getR fg_Splitter_9 d_Splitter_tryParts_1 zs_Splitter rfl ?_
  refine zq_iload_n d_Splitter_tryParts_4 rfl rfl ?_
  obtain ⟨hb, hJ⟩ := hJ
  refine zm_ald d_Splitter_tryParts_5 (rfl : zm_sh[4]? = some (.inl (0, 34, .inl (fun _ => 0)))) hb ?_
  refine zq_iconst (v := 3) d_Splitter_tryParts_6 zk_i3 ?_
  refine zq_iload_n d_Splitter_tryParts_7 rfl rfl ?_
  refine zq_imul d_Splitter_tryParts_8 ?_
  refine zq_isub d_Splitter_tryParts_9 ?_
  refine zq_iconst (v := 2) d_Splitter_tryParts_10 zk_i2 ?_
  refine zq_iload_n d_Splitter_tryParts_11 rfl rfl ?_
  refine zq_imul d_Splitter_tryParts_12 ?_
  refine zq_isub d_Splitter_tryParts_13 ?_
  refine zr_topi (fun y1 hy1 => ?_)
  have hJ := hJ y1 hy1
  refine zr_istore (L' := [some (.ref 3), some (.int a1), some (.int a2), some (.int a3), some (.int a4), some (.int y1), none, none]) d_Splitter_tryParts_14 (Nat.le_of_ble_eq_true rfl) rfl ?_
  refine zq_iload d_Splitter_tryParts_16 rfl ?_
  refine zq_if_lt (tgt := 44) d_Splitter_tryParts_18 (by decide) (fun c => ?_) (fun c => ?_)
  · have hJ := hJ.1 c
    refine zr_less (L' := [some (.ref 3), some (.int a1), some (.int a2), some (.int a3), some (.int a4), none, none, none]) ⟨rfl, ⟨rfl, ⟨rfl, ⟨rfl, ⟨rfl, trivial⟩⟩⟩⟩⟩ ?_
    exact s_Splitter_tryParts_L44  hTA   hJ
  · have hJ := hJ.2 c
    refine zq_iload_n d_Splitter_tryParts_21 rfl rfl ?_
    refine zq_iconst (v := 1) d_Splitter_tryParts_22 zk_i1 ?_
    refine zq_icmp_ne (tgt := 34) d_Splitter_tryParts_23 (by decide) (fun c => ?_) (fun c => ?_)
    · have hJ := hJ.1 c
      refine zr_less (L' := [some (.ref 3), some (.int a1), some (.int a2), some (.int a3), some (.int a4), some (.int y1), none, none]) ⟨rfl, ⟨rfl, ⟨rfl, ⟨rfl, ⟨rfl, ⟨rfl, trivial⟩⟩⟩⟩⟩⟩ ?_
      exact s_Splitter_tryParts_L34  hTA   hJ
    · have hJ := hJ.2 c
      refine zq_aload_n d_Splitter_tryParts_26 rfl rfl ?_
      refine zm_getI fg_Splitter_37 d_Splitter_tryParts_27 zs_Splitter rfl ?_
      refine zq_iconst (v := (-1)) d_Splitter_tryParts_30 zk_im1 ?_
      refine zq_icmp_ne (tgt := 44) d_Splitter_tryParts_31 (by decide) (fun c => ?_) (fun c => ?_)
      · have hJ := hJ.1 c
        refine zr_less (L' := [some (.ref 3), some (.int a1), some (.int a2), some (.int a3), some (.int a4), none, none, none]) ⟨rfl, ⟨rfl, ⟨rfl, ⟨rfl, ⟨rfl, trivial⟩⟩⟩⟩⟩ ?_
        exact s_Splitter_tryParts_L44  hTA   hJ
      · have hJ := hJ.2 c
        refine zr_less (L' := [some (.ref 3), some (.int a1), some (.int a2), some (.int a3), some (.int a4), some (.int y1), none, none]) ⟨rfl, ⟨rfl, ⟨rfl, ⟨rfl, ⟨rfl, ⟨rfl, trivial⟩⟩⟩⟩⟩⟩ ?_
        exact s_Splitter_tryParts_L34  hTA   hJ
set_option maxHeartbeats 400000 in
theorem s_Splitter_takeApart_L69 {g : zk_T} {f : Nat} {TA : Int32 → Int32 → zm → (zm → Prop) → Prop} {a1 : Int32} {a2 : Int32} (hTA : ∀ {a b : Int32} {m : zm} {K : zm → Prop}, TA a b m K → zq_Mt (zk_g g) y_Splitter_takeApart (2 * f) 0 0 [.ref 3, .int a, .int b] (zm_hp m) (zm_QV K)) {K : zm → Prop} {m : zm} (hJ : j_Splitter_takeApart_L69 TA a1 a2  K  m) : zq_V (zk_g g) ("RiichiTable$Splitter", prog_5_method_4_code, 5, none, false, zq_rm (2 * f + 2) 0 0) 0 0 69 [some (.ref 3), some (.int a1), some (.int a2), none, none] [] (zm_hp m) (zm_QV K) := by
  unfold j_Splitter_takeApart_L69 at hJ
  exact zq_vret d_Splitter_takeApart_69 rfl (Nat.le_refl _) (Nat.le_refl _) ⟨_, rfl, rfl, hJ⟩
set_option maxHeartbeats 400000 in
theorem s_Splitter_takeApart_L43 {g : zk_T} {f : Nat} {TA : Int32 → Int32 → zm → (zm → Prop) → Prop} {a1 : Int32} {a2 : Int32} (hTA : ∀ {a b : Int32} {m : zm} {K : zm → Prop}, TA a b m K → zq_Mt (zk_g g) y_Splitter_takeApart (2 * f) 0 0 [.ref 3, .int a, .int b] (zm_hp m) (zm_QV K)) {K : zm → Prop} : ∀ (n : Nat) {x3 : Int32} {x4 : Int32} {m : zm}, j_Splitter_takeApart_L43 TA a1 a2  K n x3 x4 m → zq_V (zk_g g) ("RiichiTable$Splitter", prog_5_method_4_code, 5, none, false, zq_rm (2 * f + 2) 0 0) 0 0 43 [some (.ref 3), some (.int a1), some (.int a2), some (.int x3), some (.int x4)] [] (zm_hp m) (zm_QV K) := by
  intro n
  induction n with
  | zero =>
    intro x3 x4 m hJ
    exact False.elim hJ
  | succ n ih =>
    intro x3 x4 m hJ
    rw [j_Splitter_takeApart_L43] at hJ
    refine zq_iload d_Splitter_takeApart_43 rfl ?_
    refine zq_iconst (v := 4) d_Splitter_takeApart_45 zk_i4 ?_
    refine zq_icmp_ge (tgt := 69) d_Splitter_takeApart_46 (by decide) (fun c => ?_) (fun c => ?_)
    · have hJ := hJ.1 c
      refine zr_less (L' := [some (.ref 3), some (.int a1), some (.int a2), none, none]) ⟨rfl, ⟨rfl, ⟨rfl, trivial⟩⟩⟩ ?_
      exact s_Splitter_takeApart_L69  hTA   hJ
    · have hJ := hJ.2 c
      refine zq_aload_n d_Splitter_takeApart_49 rfl rfl ?_
      refine zq_iload_n d_Splitter_takeApart_50 rfl rfl ?_
      refine zq_iload d_Splitter_takeApart_51 rfl ?_
      refine zq_iconst (v := 2) d_Splitter_takeApart_53 zk_i2 ?_
      refine zq_idiv d_Splitter_takeApart_54 (by decide) ?_
      refine zq_iload d_Splitter_takeApart_55 rfl ?_
      refine zq_iconst (v := 2) d_Splitter_takeApart_57 zk_i2 ?_
      refine zq_irem d_Splitter_takeApart_58 (by decide) ?_
      refine zq_iload_n d_Splitter_takeApart_59 rfl rfl ?_
      refine zr_cvV (q := 3) (as := [.int x3, .int (x4 / 2), .int (x4 - x4 / 2 * 2), .int a2]) (st := []) d_Splitter_takeApart_60 cc_Splitter_49 cv_Splitter_tryParts zs_Splitter (s_Splitter_tryParts hTA hJ) rfl ⟨by show _ ≤ (2 * f + 2); omega, by show _ ≤ (2 * f + 2) * 100; omega⟩ (Nat.le_of_ble_eq_true rfl) ⟨Nat.le_refl _, Nat.le_refl _⟩ rfl (fun m3 hJ => ?_)
      refine zr_iinc (d' := 1) d_Splitter_takeApart_63 zk_i1 rfl (Nat.le_of_ble_eq_true rfl) (fun y4 hy4 => ?_)
      have hJ := hJ y4 hy4
      refine zr_L (L' := [some (.ref 3), some (.int a1), some (.int a2), some (.int x3), some (.int y4)]) rfl ?_
      refine zq_goto (tgt := 43) d_Splitter_takeApart_66 (by decide) ?_
      refine zr_less (L' := [some (.ref 3), some (.int a1), some (.int a2), some (.int x3), some (.int y4)]) ⟨rfl, ⟨rfl, ⟨rfl, ⟨rfl, ⟨rfl, trivial⟩⟩⟩⟩⟩ ?_
      exact ih  hJ
set_option maxHeartbeats 400000 in
theorem s_Splitter_takeApart_L23 {g : zk_T} {f : Nat} {TA : Int32 → Int32 → zm → (zm → Prop) → Prop} {a1 : Int32} {a2 : Int32} (hTA : ∀ {a b : Int32} {m : zm} {K : zm → Prop}, TA a b m K → zq_Mt (zk_g g) y_Splitter_takeApart (2 * f) 0 0 [.ref 3, .int a, .int b] (zm_hp m) (zm_QV K)) {K : zm → Prop} {x3 : Int32} {m : zm} (hJ : j_Splitter_takeApart_L23 TA a1 a2  K x3 m) : zq_V (zk_g g) ("RiichiTable$Splitter", prog_5_method_4_code, 5, none, false, zq_rm (2 * f + 2) 0 0) 0 0 23 [some (.ref 3), some (.int a1), some (.int a2), some (.int x3), none] [] (zm_hp m) (zm_QV K) := by
  unfold j_Splitter_takeApart_L23 at hJ
  refine zq_iload_n d_Splitter_takeApart_23 rfl rfl ?_
  refine zq_bipush (v := 34) d_Splitter_takeApart_24 zk_b34 ?_
  refine zq_icmp_lt (tgt := 34) d_Splitter_takeApart_26 (by decide) (fun c => ?_) (fun c => ?_)
  · have hJ := hJ.1 c
    refine zq_iload_n d_Splitter_takeApart_34 rfl rfl ?_
    refine zq_bipush (v := 34) d_Splitter_takeApart_35 zk_b34 ?_
    refine zq_icmp_ge (tgt := 69) d_Splitter_takeApart_37 (by decide) (fun c => ?_) (fun c => ?_)
    · have hJ := hJ.1 c
      refine zr_less (L' := [some (.ref 3), some (.int a1), some (.int a2), none, none]) ⟨rfl, ⟨rfl, ⟨rfl, trivial⟩⟩⟩ ?_
      exact s_Splitter_takeApart_L69  hTA   hJ
    · have hJ := hJ.2 c
      refine zq_iconst (v := 0) d_Splitter_takeApart_40 zk_i0 ?_
      refine zr_istore (L' := [some (.ref 3), some (.int a1), some (.int a2), some (.int x3), some (.int 0)]) d_Splitter_takeApart_41 (Nat.le_of_ble_eq_true rfl) rfl ?_
      refine zr_less (L' := [some (.ref 3), some (.int a1), some (.int a2), some (.int x3), some (.int 0)]) ⟨rfl, ⟨rfl, ⟨rfl, ⟨rfl, ⟨rfl, trivial⟩⟩⟩⟩⟩ ?_
      obtain ⟨n43, hJ⟩ := hJ
      exact s_Splitter_takeApart_L43  hTA  n43  hJ
  · have hJ := hJ.2 c
    refine zq_aload_n d_Splitter_takeApart_29 rfl rfl ?_
    refine zr_cvV (q := 3) (as := []) (st := []) d_Splitter_takeApart_30 cc_Splitter_46 cv_Splitter_keepWay zs_Splitter (s_Splitter_keepWay  hJ) rfl ⟨by show _ ≤ (2 * f + 2); omega, by show _ ≤ (2 * f + 2) * 100; omega⟩ (Nat.le_of_ble_eq_true rfl) ⟨Nat.le_refl _, Nat.le_refl _⟩ rfl (fun m2 hJ => ?_)
    exact zq_vret d_Splitter_takeApart_33 rfl (Nat.le_refl _) (Nat.le_refl _) ⟨_, rfl, rfl, hJ⟩
set_option maxHeartbeats 400000 in
theorem s_Splitter_takeApart_L2 {g : zk_T} {f : Nat} {TA : Int32 → Int32 → zm → (zm → Prop) → Prop} {a1 : Int32} {a2 : Int32} (hTA : ∀ {a b : Int32} {m : zm} {K : zm → Prop}, TA a b m K → zq_Mt (zk_g g) y_Splitter_takeApart (2 * f) 0 0 [.ref 3, .int a, .int b] (zm_hp m) (zm_QV K)) {K : zm → Prop} : ∀ (n : Nat) {x3 : Int32} {m : zm}, j_Splitter_takeApart_L2 TA a1 a2  K n x3 m → zq_V (zk_g g) ("RiichiTable$Splitter", prog_5_method_4_code, 5, none, false, zq_rm (2 * f + 2) 0 0) 0 0 2 [some (.ref 3), some (.int a1), some (.int a2), some (.int x3), none] [] (zm_hp m) (zm_QV K) := by
  intro n
  induction n with
  | zero =>
    intro x3 m hJ
    exact False.elim hJ
  | succ n ih =>
    intro x3 m hJ
    rw [j_Splitter_takeApart_L2] at hJ
    refine zq_iload_n d_Splitter_takeApart_2 rfl rfl ?_
    refine zq_bipush (v := 34) d_Splitter_takeApart_3 zk_b34 ?_
    refine zq_icmp_ge (tgt := 23) d_Splitter_takeApart_5 (by decide) (fun c => ?_) (fun c => ?_)
    · have hJ := hJ.1 c
      refine zr_less (L' := [some (.ref 3), some (.int a1), some (.int a2), some (.int x3), none]) ⟨rfl, ⟨rfl, ⟨rfl, ⟨rfl, trivial⟩⟩⟩⟩ ?_
      exact s_Splitter_takeApart_L23  hTA   hJ
    · have hJ := hJ.2 c
      refine zq_aload_n d_Splitter_takeApart_8 rfl rfl ?_
      refine zm_getR fg_Splitter_9 d_Splitter_takeApart_9 zs_Splitter rfl ?_
      refine zq_iload_n d_Splitter_takeApart_12 rfl rfl ?_
      obtain ⟨hb, hJ⟩ := hJ
      refine zm_ald d_Splitter_takeApart_13 (rfl : zm_sh[4]? = some (.inl (0, 34, .inl (fun _ => 0)))) hb ?_
      refine zq_if_ne (tgt := 23) d_Splitter_takeApart_14 (by decide) (fun c => ?_) (fun c => ?_)
      · have hJ := hJ.1 c
        refine zr_less (L' := [some (.ref 3), some (.int a1), some (.int a2), some (.int x3), none]) ⟨rfl, ⟨rfl, ⟨rfl, ⟨rfl, trivial⟩⟩⟩⟩ ?_
        exact s_Splitter_takeApart_L23  hTA   hJ
      · have hJ := hJ.2 c
        refine zr_iinc (d' := 1) d_Splitter_takeApart_17 zk_i1 rfl (Nat.le_of_ble_eq_true rfl) (fun y1 hy1 => ?_)
        have hJ := hJ y1 hy1
        refine zr_L (L' := [some (.ref 3), some (.int a1), some (.int a2), some (.int y1), none]) rfl ?_
        refine zq_goto (tgt := 2) d_Splitter_takeApart_20 (by decide) ?_
        refine zr_less (L' := [some (.ref 3), some (.int a1), some (.int a2), some (.int y1), none]) ⟨rfl, ⟨rfl, ⟨rfl, ⟨rfl, trivial⟩⟩⟩⟩ ?_
        exact ih  hJ
set_option maxHeartbeats 400000 in
theorem s_Splitter_takeApart_b {g : zk_T} {f : Nat} {TA : Int32 → Int32 → zm → (zm → Prop) → Prop} {a1 : Int32} {a2 : Int32} (hTA : ∀ {a b : Int32} {m : zm} {K : zm → Prop}, TA a b m K → zq_Mt (zk_g g) y_Splitter_takeApart (2 * f) 0 0 [.ref 3, .int a, .int b] (zm_hp m) (zm_QV K)) {K : zm → Prop} {m : zm} (hJ : j_Splitter_takeApart_b TA a1 a2 m K) : zq_Mt (zk_g g) y_Splitter_takeApart (2 * f + 2) 0 0 [.ref 3, .int a1, .int a2] (zm_hp m) (zm_QV K) := by
  unfold j_Splitter_takeApart_b at hJ
  refine zq_meth (ini := false) rfl (fun h => by cases h) (Nat.le_of_ble_eq_true rfl) ?_
  refine zr_L (F := ("RiichiTable$Splitter", prog_5_method_4_code, 5, none, false, zq_rm (2 * f + 2) 0 0)) (L' := [some (.ref 3), some (.int a1), some (.int a2), none, none]) rfl ?_
  refine zq_iload_n d_Splitter_takeApart_0 rfl rfl ?_
  refine zr_istore_n (L' := [some (.ref 3), some (.int a1), some (.int a2), some (.int a1), none]) d_Splitter_takeApart_1 rfl (Nat.le_of_ble_eq_true rfl) rfl ?_
  refine zr_less (L' := [some (.ref 3), some (.int a1), some (.int a2), some (.int a1), none]) ⟨rfl, ⟨rfl, ⟨rfl, ⟨rfl, trivial⟩⟩⟩⟩ ?_
  obtain ⟨n2, hJ⟩ := hJ
  exact s_Splitter_takeApart_L2  hTA  n2  hJ
theorem s_Splitter_takeApart {g : zk_T} : ∀ (f : Nat) {a b : Int32} {m : zm} {K : zm → Prop}, j_Splitter_takeApart f a b m K → zq_Mt (zk_g g) y_Splitter_takeApart (2 * f) 0 0 [.ref 3, .int a, .int b] (zm_hp m) (zm_QV K) := by
  intro f
  induction f with
  | zero => intro a b m K hJ; exact False.elim hJ
  | succ f ih => intro a b m K hJ; rw [j_Splitter_takeApart] at hJ; exact s_Splitter_takeApart_b (f := f) ih hJ
set_option maxHeartbeats 400000 in
theorem s_Splitter_findWays {g : zk_T} {K : zm → Prop} {m : zm} (hJ : j_Splitter_findWays  m K) : zq_Mt (zk_g g) y_Splitter_findWays 83 0 0 [.ref 3] (zm_hp m) (zm_QV K) := by
  unfold j_Splitter_findWays at hJ
  refine zq_meth (ini := false) rfl (fun h => by cases h) (Nat.le_of_ble_eq_true rfl) ?_
  refine zr_L (F := ("RiichiTable$Splitter", prog_5_method_3_code, 1, none, false, zq_rm 83 0 0)) (L' := [some (.ref 3)]) rfl ?_
  refine zq_aload_n d_Splitter_findWays_0 rfl rfl ?_
  refine zq_iconst (v := (-1)) d_Splitter_findWays_1 zk_im1 ?_
  refine zr_putI fl_Splitter_37 d_Splitter_findWays_2 zs_Splitter rfl rfl (fun m1 hm1 => ?_)
  have hJ := hJ m1 hm1
  refine zq_aload_n d_Splitter_findWays_5 rfl rfl ?_
  refine zq_iconst (v := 0) d_Splitter_findWays_6 zk_i0 ?_
  refine zr_putI fl_Splitter_40 d_Splitter_findWays_7 zs_Splitter rfl rfl (fun m2 hm2 => ?_)
  have hJ := hJ m2 hm2
  refine zq_aload_n d_Splitter_findWays_10 rfl rfl ?_
  refine zq_iconst (v := 0) d_Splitter_findWays_11 zk_i0 ?_
  refine zq_iconst (v := 0) d_Splitter_findWays_12 zk_i0 ?_
  refine zr_cvV (q := 3) (as := [.int 0, .int 0]) (st := []) d_Splitter_findWays_13 cc_Splitter_43 cv_Splitter_takeApart zs_Splitter (s_Splitter_takeApart 40  hJ) rfl ⟨by show _ ≤ 83; omega, by show _ ≤ 83 * 100; omega⟩ (Nat.le_of_ble_eq_true rfl) ⟨Nat.le_refl _, Nat.le_refl _⟩ rfl (fun m3 hJ => ?_)
  exact zq_vret d_Splitter_findWays_16 rfl (Nat.le_refl _) (Nat.le_refl _) ⟨_, rfl, rfl, hJ⟩
set_option maxHeartbeats 400000 in
theorem s_Splitter_partOf_L29 {g : zk_T} {a1 : Int32} {a2 : Int32} {K : Int32 → zm → Prop} {t0 : Int32} {m : zm} (hJ : j_Splitter_partOf_L29 a1 a2  K t0 m) : zq_V (zk_g g) ("RiichiTable$Splitter", prog_5_method_10_code, 4, (some .int), false, zq_rm 0 0 0) 0 0 29 [some (.ref 3), some (.int a1), some (.int a2), none] [.int t0] (zm_hp m) (zm_QI K) := by
  unfold j_Splitter_partOf_L29 at hJ
  exact zq_iret d_Splitter_partOf_29 rfl rfl (Nat.le_refl _) (Nat.le_refl _) ⟨_, _, rfl, rfl, hJ⟩
set_option maxHeartbeats 400000 in
theorem s_Splitter_partOf_L28 {g : zk_T} {a1 : Int32} {a2 : Int32} {K : Int32 → zm → Prop} {m : zm} (hJ : j_Splitter_partOf_L28 a1 a2  K  m) : zq_V (zk_g g) ("RiichiTable$Splitter", prog_5_method_10_code, 4, (some .int), false, zq_rm 0 0 0) 0 0 28 [some (.ref 3), some (.int a1), some (.int a2), none] [] (zm_hp m) (zm_QI K) := by
  unfold j_Splitter_partOf_L28 at hJ
  refine zq_iconst (v := 0) d_Splitter_partOf_28 zk_i0 ?_
  refine zr_less (L' := [some (.ref 3), some (.int a1), some (.int a2), none]) ⟨rfl, ⟨rfl, ⟨rfl, trivial⟩⟩⟩ ?_
  exact s_Splitter_partOf_L29    hJ
set_option maxHeartbeats 400000 in
theorem s_Splitter_partOf {g : zk_T} {a1 : Int32} {a2 : Int32} {K : Int32 → zm → Prop} {m : zm} (hJ : j_Splitter_partOf a1 a2 m K) : zq_Mt (zk_g g) y_Splitter_partOf 0 0 0 [.ref 3, .int a1, .int a2] (zm_hp m) (zm_QI K) := by
  unfold j_Splitter_partOf at hJ
  refine zq_meth (ini := false) rfl (fun h => by cases h) (Nat.le_of_ble_eq_true rfl) ?_
  refine zr_L (F := ("RiichiTable$Splitter", prog_5_method_10_code, 4, (some .int), false, zq_rm 0 0 0)) (L' := [some (.ref 3), some (.int a1), some (.int a2), none]) rfl ?_
  refine zq_iload_n d_Splitter_partOf_0 rfl rfl ?_
  refine zq_iconst (v := 5) d_Splitter_partOf_1 zk_i5 ?_
  refine zq_imul d_Splitter_partOf_2 ?_
  refine zq_iload_n d_Splitter_partOf_3 rfl rfl ?_
  refine zq_iadd d_Splitter_partOf_4 ?_
  refine zr_topi (fun y1 hy1 => ?_)
  have hJ := hJ y1 hy1
  refine zr_istore_n (L' := [some (.ref 3), some (.int a1), some (.int a2), some (.int y1)]) d_Splitter_partOf_5 rfl (Nat.le_of_ble_eq_true rfl) rfl ?_
  refine zq_iload_n d_Splitter_partOf_6 rfl rfl ?_
  refine zq_if_lt (tgt := 28) d_Splitter_partOf_7 (by decide) (fun c => ?_) (fun c => ?_)
  · have hJ := hJ.1 c
    refine zr_less (L' := [some (.ref 3), some (.int a1), some (.int a2), none]) ⟨rfl, ⟨rfl, ⟨rfl, trivial⟩⟩⟩ ?_
    exact s_Splitter_partOf_L28    hJ
  · have hJ := hJ.2 c
    refine zq_iload_n d_Splitter_partOf_10 rfl rfl ?_
    refine zq_aload_n d_Splitter_partOf_11 rfl rfl ?_
    refine zm_getR fg_Splitter_18 d_Splitter_partOf_12 zs_Splitter rfl ?_
    refine zm_alen d_Splitter_partOf_15 (rfl : zm_sh[6]? = some (.inl (0, 40, .inl (fun _ => 0)))) ?_
    refine zq_icmp_ge (tgt := 28) d_Splitter_partOf_16 (by decide) (fun c => ?_) (fun c => ?_)
    · have hJ := hJ.1 c
      refine zr_less (L' := [some (.ref 3), some (.int a1), some (.int a2), none]) ⟨rfl, ⟨rfl, ⟨rfl, trivial⟩⟩⟩ ?_
      exact s_Splitter_partOf_L28    hJ
    · have hJ := hJ.2 c
      refine zq_aload_n d_Splitter_partOf_19 rfl rfl ?_
      refine zm_getR fg_Splitter_18 d_Splitter_partOf_20 zs_Splitter rfl ?_
      refine zq_iload_n d_Splitter_partOf_23 rfl rfl ?_
      obtain ⟨hb, hJ⟩ := hJ
      refine zm_ald d_Splitter_partOf_24 (rfl : zm_sh[6]? = some (.inl (0, 40, .inl (fun _ => 0)))) hb ?_
      refine zq_goto (tgt := 29) d_Splitter_partOf_25 (by decide) ?_
      refine zr_less (L' := [some (.ref 3), some (.int a1), some (.int a2), none]) ⟨rfl, ⟨rfl, ⟨rfl, trivial⟩⟩⟩ ?_
      exact s_Splitter_partOf_L29    hJ
set_option maxHeartbeats 400000 in
theorem s_Judge_findBest_L175 {g : zk_T} {R89 : Int64 → Int32 → zm → Prop} {R151 : Int64 → Int32 → Int32 → zm → Prop} {K : Int32 → zm → Prop} (hR89 : ∀ {x1 : Int64} {x3 : Int32} {m : zm}, R89 x1 x3 m → zq_V (zk_g g) ("RiichiTable$Judge", prog_2_method_3_code, 5, (some .boolean), false, zq_rm 84 0 0) 0 0 89 [some (.ref 2), some (.long x1), none, some (.int x3), none] [] (zm_hp m) (zm_QI K)) (hR151 : ∀ {x1 : Int64} {x3 : Int32} {x4 : Int32} {m : zm}, R151 x1 x3 x4 m → zq_V (zk_g g) ("RiichiTable$Judge", prog_2_method_3_code, 5, (some .boolean), false, zq_rm 84 0 0) 0 0 151 [some (.ref 2), some (.long x1), none, some (.int x3), some (.int x4)] [] (zm_hp m) (zm_QI K)) {x1 : Int64} {x3 : Int32} {x4 : Int32} {m : zm} (hJ : j_Judge_findBest_L175  R89 R151 K x1 x3 x4 m) : zq_V (zk_g g) ("RiichiTable$Judge", prog_2_method_3_code, 5, (some .boolean), false, zq_rm 84 0 0) 0 0 175 [some (.ref 2), some (.long x1), none, some (.int x3), some (.int x4)] [] (zm_hp m) (zm_QI K) := by
  unfold j_Judge_findBest_L175 at hJ
  refine zr_iinc (d' := 1) d_Judge_findBest_175 zk_i1 rfl (Nat.le_of_ble_eq_true rfl) (fun y26 hy26 => ?_)
  have hJ := hJ y26 hy26
  refine zr_L (L' := [some (.ref 2), some (.long x1), none, some (.int x3), some (.int y26)]) rfl ?_
  refine zq_goto (tgt := 151) d_Judge_findBest_178 (by decide) ?_
  refine zr_less (L' := [some (.ref 2), some (.long x1), none, some (.int x3), some (.int y26)]) ⟨rfl, ⟨rfl, ⟨rfl, ⟨rfl, trivial⟩⟩⟩⟩ ?_
  exact hR151  hJ
set_option maxHeartbeats 400000 in
theorem s_Judge_findBest_L151 {g : zk_T} {R89 : Int64 → Int32 → zm → Prop} {K : Int32 → zm → Prop} (hR89 : ∀ {x1 : Int64} {x3 : Int32} {m : zm}, R89 x1 x3 m → zq_V (zk_g g) ("RiichiTable$Judge", prog_2_method_3_code, 5, (some .boolean), false, zq_rm 84 0 0) 0 0 89 [some (.ref 2), some (.long x1), none, some (.int x3), none] [] (zm_hp m) (zm_QI K)) : ∀ (n : Nat) {x1 : Int64} {x3 : Int32} {x4 : Int32} {m : zm}, j_Judge_findBest_L151  R89 K n x1 x3 x4 m → zq_V (zk_g g) ("RiichiTable$Judge", prog_2_method_3_code, 5, (some .boolean), false, zq_rm 84 0 0) 0 0 151 [some (.ref 2), some (.long x1), none, some (.int x3), some (.int x4)] [] (zm_hp m) (zm_QI K) := by
  intro n
  induction n with
  | zero =>
    intro x1 x3 x4 m hJ
    exact False.elim hJ
  | succ n ih =>
    intro x1 x3 x4 m hJ
    rw [j_Judge_findBest_L151] at hJ
    refine zq_iload d_Judge_findBest_151 rfl ?_
    refine zq_iconst (v := 4) d_Judge_findBest_153 zk_i4 ?_
    refine zq_icmp_gt (tgt := 181) d_Judge_findBest_154 (by decide) (fun c => ?_) (fun c => ?_)
    · have hJ := hJ.1 c
      refine zr_iinc (d' := 1) d_Judge_findBest_181 zk_i1 rfl (Nat.le_of_ble_eq_true rfl) (fun y21 hy21 => ?_)
      have hJ := hJ y21 hy21
      refine zr_L (L' := [some (.ref 2), some (.long x1), none, some (.int y21), some (.int x4)]) rfl ?_
      refine zq_goto (tgt := 89) d_Judge_findBest_184 (by decide) ?_
      refine zr_less (L' := [some (.ref 2), some (.long x1), none, some (.int y21), none]) ⟨rfl, ⟨rfl, ⟨rfl, trivial⟩⟩⟩ ?_
      exact hR89  hJ
    · have hJ := hJ.2 c
      refine zq_aload_n d_Judge_findBest_157 rfl rfl ?_
      refine zq_iload d_Judge_findBest_158 rfl ?_
      refine zr_putI fl_Judge_113 d_Judge_findBest_160 zs_Judge rfl rfl (fun m22 hm22 => ?_)
      have hJ := hJ m22 hm22
      refine zq_aload_n d_Judge_findBest_163 rfl rfl ?_
      refine zr_cvI (q := 2) (as := []) (st := []) d_Judge_findBest_164 cc_Judge_116 cv_Judge_isLastThere zs_Judge (s_Judge_isLastThere  hJ) rfl ⟨Nat.le_of_ble_eq_true rfl, Nat.le_of_ble_eq_true rfl⟩ (Nat.le_of_ble_eq_true rfl) ⟨Nat.le_refl _, Nat.le_refl _⟩ rfl (fun r24 m23 hJ => ?_)
      refine zq_if_eq (tgt := 175) d_Judge_findBest_167 (by decide) (fun c => ?_) (fun c => ?_)
      · have hJ := hJ.1 c
        refine zr_less (L' := [some (.ref 2), some (.long x1), none, some (.int x3), some (.int x4)]) ⟨rfl, ⟨rfl, ⟨rfl, ⟨rfl, trivial⟩⟩⟩⟩ ?_
        exact s_Judge_findBest_L175  hR89 ih  hJ
      · have hJ := hJ.2 c
        refine zq_aload_n d_Judge_findBest_170 rfl rfl ?_
        refine zq_lload_n d_Judge_findBest_171 rfl rfl ?_
        refine zr_cvV (q := 2) (as := [.long x1]) (st := []) d_Judge_findBest_172 cc_Judge_119 cv_Judge_rateSets zs_Judge (s_Judge_rateSets  hJ) rfl ⟨Nat.le_of_ble_eq_true rfl, Nat.le_of_ble_eq_true rfl⟩ (Nat.le_of_ble_eq_true rfl) ⟨Nat.le_refl _, Nat.le_refl _⟩ rfl (fun m25 hJ => ?_)
        refine zr_less (L' := [some (.ref 2), some (.long x1), none, some (.int x3), some (.int x4)]) ⟨rfl, ⟨rfl, ⟨rfl, ⟨rfl, trivial⟩⟩⟩⟩ ?_
        exact s_Judge_findBest_L175  hR89 ih  hJ
set_option maxHeartbeats 400000 in
theorem s_Judge_findBest_L103 {g : zk_T} {R89 : Int64 → Int32 → zm → Prop} {K : Int32 → zm → Prop} (hR89 : ∀ {x1 : Int64} {x3 : Int32} {m : zm}, R89 x1 x3 m → zq_V (zk_g g) ("RiichiTable$Judge", prog_2_method_3_code, 5, (some .boolean), false, zq_rm 84 0 0) 0 0 89 [some (.ref 2), some (.long x1), none, some (.int x3), none] [] (zm_hp m) (zm_QI K)) : ∀ (n : Nat) {x1 : Int64} {x3 : Int32} {x4 : Int32} {m : zm}, j_Judge_findBest_L103  R89 K n x1 x3 x4 m → zq_V (zk_g g) ("RiichiTable$Judge", prog_2_method_3_code, 5, (some .boolean), false, zq_rm 84 0 0) 0 0 103 [some (.ref 2), some (.long x1), none, some (.int x3), some (.int x4)] [] (zm_hp m) (zm_QI K) := by
  intro n
  induction n with
  | zero =>
    intro x1 x3 x4 m hJ
    exact False.elim hJ
  | succ n ih =>
    intro x1 x3 x4 m hJ
    rw [j_Judge_findBest_L103] at hJ
    refine zq_iload d_Judge_findBest_103 rfl ?_
    refine zq_iconst (v := 4) d_Judge_findBest_105 zk_i4 ?_
    refine zq_icmp_ge (tgt := 132) d_Judge_findBest_106 (by decide) (fun c => ?_) (fun c => ?_)
    · have hJ := hJ.1 c
      refine zq_aload_n d_Judge_findBest_132 rfl rfl ?_
      refine zq_aload_n d_Judge_findBest_133 rfl rfl ?_
      refine zm_getR fg_Judge_12 d_Judge_findBest_134 zs_Judge rfl ?_
      refine zq_iload_n d_Judge_findBest_137 rfl rfl ?_
      refine zq_iconst (v := 4) d_Judge_findBest_138 zk_i4 ?_
      refine zr_cvI (q := 3) (as := [.int x3, .int 4]) (st := [.ref 2]) d_Judge_findBest_139 cc_Judge_107 cv_Splitter_partOf zs_Splitter (s_Splitter_partOf  hJ) rfl ⟨Nat.le_of_ble_eq_true rfl, Nat.le_of_ble_eq_true rfl⟩ (Nat.le_of_ble_eq_true rfl) ⟨Nat.le_refl _, Nat.le_refl _⟩ rfl (fun r14 m13 hJ => ?_)
      refine zr_putI fl_Judge_110 d_Judge_findBest_142 zs_Judge rfl rfl (fun m15 hm15 => ?_)
      have hJ := hJ m15 hm15
      refine zq_aload_n d_Judge_findBest_145 rfl rfl ?_
      refine zm_getI fg_Judge_48 d_Judge_findBest_146 zs_Judge rfl ?_
      refine zr_topi (fun y16 hy16 => ?_)
      have hJ := hJ y16 hy16
      refine zr_istore (L' := [some (.ref 2), some (.long x1), none, some (.int x3), some (.int y16)]) d_Judge_findBest_149 (Nat.le_of_ble_eq_true rfl) rfl ?_
      refine zr_less (L' := [some (.ref 2), some (.long x1), none, some (.int x3), some (.int y16)]) ⟨rfl, ⟨rfl, ⟨rfl, ⟨rfl, trivial⟩⟩⟩⟩ ?_
      obtain ⟨n151, hJ⟩ := hJ
      exact s_Judge_findBest_L151  hR89 n151  hJ
    · have hJ := hJ.2 c
      refine zq_aload_n d_Judge_findBest_109 rfl rfl ?_
      refine zm_getR fg_Judge_22 d_Judge_findBest_110 zs_Judge rfl ?_
      refine zq_iload d_Judge_findBest_113 rfl ?_
      refine zq_aload_n d_Judge_findBest_115 rfl rfl ?_
      refine zm_getR fg_Judge_12 d_Judge_findBest_116 zs_Judge rfl ?_
      refine zq_iload_n d_Judge_findBest_119 rfl rfl ?_
      refine zq_iload d_Judge_findBest_120 rfl ?_
      refine zr_cvI (q := 3) (as := [.int x3, .int x4]) (st := [.int x4, .ref 8]) d_Judge_findBest_122 cc_Judge_107 cv_Splitter_partOf zs_Splitter (s_Splitter_partOf  hJ) rfl ⟨Nat.le_of_ble_eq_true rfl, Nat.le_of_ble_eq_true rfl⟩ (Nat.le_of_ble_eq_true rfl) ⟨Nat.le_refl _, Nat.le_refl _⟩ rfl (fun r18 m17 hJ => ?_)
      obtain ⟨hb, hJ⟩ := hJ
      refine zr_ast d_Judge_findBest_125 (rfl : zm_sh[8]? = some (.inl (0, 4, .inl (fun _ => 0)))) hb (fun m19 hm19 => ?_)
      have hJ := hJ m19 hm19
      refine zr_iinc (d' := 1) d_Judge_findBest_126 zk_i1 rfl (Nat.le_of_ble_eq_true rfl) (fun y20 hy20 => ?_)
      have hJ := hJ y20 hy20
      refine zr_L (L' := [some (.ref 2), some (.long x1), none, some (.int x3), some (.int y20)]) rfl ?_
      refine zq_goto (tgt := 103) d_Judge_findBest_129 (by decide) ?_
      refine zr_less (L' := [some (.ref 2), some (.long x1), none, some (.int x3), some (.int y20)]) ⟨rfl, ⟨rfl, ⟨rfl, ⟨rfl, trivial⟩⟩⟩⟩ ?_
      exact ih  hJ
set_option maxHeartbeats 400000 in
theorem s_Judge_findBest_L204 {g : zk_T} {K : Int32 → zm → Prop} {t0 : Int32} {m : zm} (hJ : j_Judge_findBest_L204   K t0 m) : zq_V (zk_g g) ("RiichiTable$Judge", prog_2_method_3_code, 5, (some .boolean), false, zq_rm 84 0 0) 0 0 204 [some (.ref 2), none, none, none, none] [.int t0] (zm_hp m) (zm_QI K) := by
  unfold j_Judge_findBest_L204 at hJ
  exact zq_iret d_Judge_findBest_204 rfl hJ.1.nar (Nat.le_refl _) (Nat.le_refl _) ⟨_, _, rfl, rfl, hJ.2⟩
set_option maxHeartbeats 400000 in
theorem s_Judge_findBest_L89 {g : zk_T} {K : Int32 → zm → Prop} : ∀ (n : Nat) {x1 : Int64} {x3 : Int32} {m : zm}, j_Judge_findBest_L89   K n x1 x3 m → zq_V (zk_g g) ("RiichiTable$Judge", prog_2_method_3_code, 5, (some .boolean), false, zq_rm 84 0 0) 0 0 89 [some (.ref 2), some (.long x1), none, some (.int x3), none] [] (zm_hp m) (zm_QI K) := by
  intro n
  induction n with
  | zero =>
    intro x1 x3 m hJ
    exact False.elim hJ
  | succ n ih =>
    intro x1 x3 m hJ
    rw [j_Judge_findBest_L89] at hJ
    refine zq_iload_n d_Judge_findBest_89 rfl rfl ?_
    refine zq_aload_n d_Judge_findBest_90 rfl rfl ?_
    refine zm_getR fg_Judge_12 d_Judge_findBest_91 zs_Judge rfl ?_
    refine zm_getI fg_Judge_104 d_Judge_findBest_94 zs_Splitter rfl ?_
    refine zq_icmp_ge (tgt := 187) d_Judge_findBest_97 (by decide) (fun c => ?_) (fun c => ?_)
    · have hJ := hJ.1 c
      refine zq_aload_n d_Judge_findBest_187 rfl rfl ?_
      refine zm_getR fg_Judge_32 d_Judge_findBest_188 zs_Judge rfl ?_
      refine zm_getL fg_Judge_75 d_Judge_findBest_191 zw_10.s rfl ?_
      refine zq_lconst (v := 0) d_Judge_findBest_194 zk_l0 ?_
      refine zq_lcmp d_Judge_findBest_195 ?_
      refine zq_if_eq (tgt := 203) d_Judge_findBest_196 (by decide) (fun c => ?_) (fun c => ?_)
      · have hJ := hJ.1 c
        refine zq_iconst (v := 0) d_Judge_findBest_203 zk_i0 ?_
        refine zr_less (L' := [some (.ref 2), none, none, none, none]) ⟨rfl, trivial⟩ ?_
        exact s_Judge_findBest_L204    hJ
      · have hJ := hJ.2 c
        refine zq_iconst (v := 1) d_Judge_findBest_199 zk_i1 ?_
        refine zq_goto (tgt := 204) d_Judge_findBest_200 (by decide) ?_
        refine zr_less (L' := [some (.ref 2), none, none, none, none]) ⟨rfl, trivial⟩ ?_
        exact s_Judge_findBest_L204    hJ
    · have hJ := hJ.2 c
      refine zq_iconst (v := 0) d_Judge_findBest_100 zk_i0 ?_
      refine zr_istore (L' := [some (.ref 2), some (.long x1), none, some (.int x3), some (.int 0)]) d_Judge_findBest_101 (Nat.le_of_ble_eq_true rfl) rfl ?_
      refine zr_less (L' := [some (.ref 2), some (.long x1), none, some (.int x3), some (.int 0)]) ⟨rfl, ⟨rfl, ⟨rfl, ⟨rfl, trivial⟩⟩⟩⟩ ?_
      obtain ⟨n103, hJ⟩ := hJ
      exact s_Judge_findBest_L103  ih n103  hJ
set_option maxHeartbeats 400000 in
theorem s_Judge_findBest_L75 {g : zk_T} {K : Int32 → zm → Prop} {m : zm} (hJ : j_Judge_findBest_L75   K  m) : zq_V (zk_g g) ("RiichiTable$Judge", prog_2_method_3_code, 5, (some .boolean), false, zq_rm 84 0 0) 0 0 75 [some (.ref 2), none, none, none, none] [] (zm_hp m) (zm_QI K) := by
  unfold j_Judge_findBest_L75 at hJ
  refine zq_aload_n d_Judge_findBest_75 rfl rfl ?_
  refine zm_getR fg_Judge_12 d_Judge_findBest_76 zs_Judge rfl ?_
  refine zr_cvV (q := 3) (as := []) (st := []) d_Judge_findBest_79 cc_Judge_101 cv_Splitter_findWays zs_Splitter (s_Splitter_findWays  hJ) rfl ⟨Nat.le_of_ble_eq_true rfl, Nat.le_of_ble_eq_true rfl⟩ (Nat.le_of_ble_eq_true rfl) ⟨Nat.le_refl _, Nat.le_refl _⟩ rfl (fun m10 hJ => ?_)
  refine zq_aload_n d_Judge_findBest_82 rfl rfl ?_
  refine zr_cvL (q := 2) (as := []) (st := []) d_Judge_findBest_83 cc_Judge_97 cv_Judge_yakuOfTiles zs_Judge (s_Judge_yakuOfTiles  hJ) rfl ⟨Nat.le_of_ble_eq_true rfl, Nat.le_of_ble_eq_true rfl⟩ (Nat.le_of_ble_eq_true rfl) ⟨Nat.le_refl _, Nat.le_refl _⟩ rfl (fun r12 m11 hJ => ?_)
  refine zr_lstore_n (L' := [some (.ref 2), some (.long r12), none, none, none]) d_Judge_findBest_86 rfl (Nat.le_of_ble_eq_true rfl) rfl ?_
  refine zq_iconst (v := 0) d_Judge_findBest_87 zk_i0 ?_
  refine zr_istore_n (L' := [some (.ref 2), some (.long r12), none, some (.int 0), none]) d_Judge_findBest_88 rfl (Nat.le_of_ble_eq_true rfl) rfl ?_
  refine zr_less (L' := [some (.ref 2), some (.long r12), none, some (.int 0), none]) ⟨rfl, ⟨rfl, ⟨rfl, trivial⟩⟩⟩ ?_
  obtain ⟨n89, hJ⟩ := hJ
  exact s_Judge_findBest_L89   n89  hJ
set_option maxHeartbeats 400000 in
theorem s_Judge_findBest_L39 {g : zk_T} {K : Int32 → zm → Prop} {m : zm} (hJ : j_Judge_findBest_L39   K  m) : zq_V (zk_g g) ("RiichiTable$Judge", prog_2_method_3_code, 5, (some .boolean), false, zq_rm 84 0 0) 0 0 39 [some (.ref 2), none, none, none, none] [] (zm_hp m) (zm_QI K) := by
  unfold j_Judge_findBest_L39 at hJ
  refine zq_aload_n d_Judge_findBest_39 rfl rfl ?_
  refine zm_getI fg_Judge_48 d_Judge_findBest_40 zs_Judge rfl ?_
  refine zq_if_ne (tgt := 75) d_Judge_findBest_43 (by decide) (fun c => ?_) (fun c => ?_)
  · have hJ := hJ.1 c
    refine zr_less (L' := [some (.ref 2), none, none, none, none]) ⟨rfl, trivial⟩ ?_
    exact s_Judge_findBest_L75    hJ
  · have hJ := hJ.2 c
    refine zq_aload_n d_Judge_findBest_46 rfl rfl ?_
    refine zm_getR fg_Judge_18 d_Judge_findBest_47 zs_Judge rfl ?_
    refine zr_csI (as := [.ref 7]) (st := []) d_Judge_findBest_50 cc_Judge_92 cs_Shape_isSevenPairs (s_Shape_isSevenPairs (rfl : zm_sh[7]? = some (.inl (0, 34, .inl (fun _ => 0)))) hJ) rfl ⟨Nat.le_of_ble_eq_true rfl, Nat.le_of_ble_eq_true rfl⟩ (Nat.le_of_ble_eq_true rfl) ⟨Nat.le_refl _, Nat.le_refl _⟩ rfl (fun r6 m5 hJ => ?_)
    refine zq_if_eq (tgt := 75) d_Judge_findBest_53 (by decide) (fun c => ?_) (fun c => ?_)
    · have hJ := hJ.1 c
      refine zr_less (L' := [some (.ref 2), none, none, none, none]) ⟨rfl, trivial⟩ ?_
      exact s_Judge_findBest_L75    hJ
    · have hJ := hJ.2 c
      refine zq_aload_n d_Judge_findBest_56 rfl rfl ?_
      refine zq_aload_n d_Judge_findBest_57 rfl rfl ?_
      refine zm_getL fg_Judge_83 d_Judge_findBest_58 zs_Judge rfl ?_
      refine zq_ldc2 (v := 67108864) (zq_in (zq_c2 (List.mem_of_getElem? (i := 237) rfl)) rfl) d_Judge_findBest_61 ?_
      refine zq_lor d_Judge_findBest_64 ?_
      refine zq_aload_n d_Judge_findBest_65 rfl rfl ?_
      refine zr_cvL (q := 2) (as := []) (st := [.long ((m5.2 2 11) ||| 67108864), .ref 2]) d_Judge_findBest_66 cc_Judge_97 cv_Judge_yakuOfTiles zs_Judge (s_Judge_yakuOfTiles  hJ) rfl ⟨Nat.le_of_ble_eq_true rfl, Nat.le_of_ble_eq_true rfl⟩ (Nat.le_of_ble_eq_true rfl) ⟨Nat.le_refl _, Nat.le_refl _⟩ rfl (fun r8 m7 hJ => ?_)
      refine zq_lor d_Judge_findBest_69 ?_
      refine zq_bipush (v := 25) d_Judge_findBest_70 zk_b25 ?_
      refine zr_cvV (q := 2) (as := [.long (((m5.2 2 11) ||| 67108864) ||| r8), .int 25]) (st := []) d_Judge_findBest_72 cc_Judge_88 cv_Judge_rate zs_Judge (s_Judge_rate  hJ) rfl ⟨Nat.le_of_ble_eq_true rfl, Nat.le_of_ble_eq_true rfl⟩ (Nat.le_of_ble_eq_true rfl) ⟨Nat.le_refl _, Nat.le_refl _⟩ rfl (fun m9 hJ => ?_)
      refine zr_less (L' := [some (.ref 2), none, none, none, none]) ⟨rfl, trivial⟩ ?_
      exact s_Judge_findBest_L75    hJ
set_option maxHeartbeats 400000 in
theorem s_Judge_findBest {g : zk_T} {K : Int32 → zm → Prop} {m : zm} (hJ : j_Judge_findBest  m K) : zq_Mt (zk_g g) y_Judge_findBest 84 0 0 [.ref 2] (zm_hp m) (zm_QI K) := by
  unfold j_Judge_findBest at hJ
  refine zq_meth (ini := false) rfl (fun h => by cases h) (Nat.le_of_ble_eq_true rfl) ?_
  refine zr_L (F := ("RiichiTable$Judge", prog_2_method_3_code, 5, (some .boolean), false, zq_rm 84 0 0)) (L' := [some (.ref 2), none, none, none, none]) rfl ?_
  refine zq_aload_n d_Judge_findBest_0 rfl rfl ?_
  refine zm_getR fg_Judge_32 d_Judge_findBest_1 zs_Judge rfl ?_
  refine zq_lconst (v := 0) d_Judge_findBest_4 zk_l0 ?_
  refine zr_putL fl_Judge_75 d_Judge_findBest_5 zw_10.s rfl rfl (fun m1 hm1 => ?_)
  have hJ := hJ m1 hm1
  refine zq_aload_n d_Judge_findBest_8 rfl rfl ?_
  refine zm_getI fg_Judge_48 d_Judge_findBest_9 zs_Judge rfl ?_
  refine zq_if_ne (tgt := 39) d_Judge_findBest_12 (by decide) (fun c => ?_) (fun c => ?_)
  · have hJ := hJ.1 c
    refine zr_less (L' := [some (.ref 2), none, none, none, none]) ⟨rfl, trivial⟩ ?_
    exact s_Judge_findBest_L39    hJ
  · have hJ := hJ.2 c
    refine zq_aload_n d_Judge_findBest_15 rfl rfl ?_
    refine zm_getR fg_Judge_18 d_Judge_findBest_16 zs_Judge rfl ?_
    refine zr_csI (as := [.ref 7]) (st := []) d_Judge_findBest_19 cc_Judge_79 cs_Shape_isOrphans (s_Shape_isOrphans (rfl : zm_sh[7]? = some (.inl (0, 34, .inl (fun _ => 0)))) hJ) rfl ⟨Nat.le_of_ble_eq_true rfl, Nat.le_of_ble_eq_true rfl⟩ (Nat.le_of_ble_eq_true rfl) ⟨Nat.le_refl _, Nat.le_refl _⟩ rfl (fun r3 m2 hJ => ?_)
    refine zq_if_eq (tgt := 39) d_Judge_findBest_22 (by decide) (fun c => ?_) (fun c => ?_)
    · have hJ := hJ.1 c
      refine zr_less (L' := [some (.ref 2), none, none, none, none]) ⟨rfl, trivial⟩ ?_
      exact s_Judge_findBest_L39    hJ
    · have hJ := hJ.2 c
      refine zq_aload_n d_Judge_findBest_25 rfl rfl ?_
      refine zq_aload_n d_Judge_findBest_26 rfl rfl ?_
      refine zm_getL fg_Judge_83 d_Judge_findBest_27 zs_Judge rfl ?_
      refine zq_ldc2 (v := 1073741824) (zq_in (zq_c2 (List.mem_of_getElem? (i := 209) rfl)) rfl) d_Judge_findBest_30 ?_
      refine zq_lor d_Judge_findBest_33 ?_
      refine zq_bipush (v := 30) d_Judge_findBest_34 zk_b30 ?_
      refine zr_cvV (q := 2) (as := [.long ((m2.2 2 11) ||| 1073741824), .int 30]) (st := []) d_Judge_findBest_36 cc_Judge_88 cv_Judge_rate zs_Judge (s_Judge_rate  hJ) rfl ⟨Nat.le_of_ble_eq_true rfl, Nat.le_of_ble_eq_true rfl⟩ (Nat.le_of_ble_eq_true rfl) ⟨Nat.le_refl _, Nat.le_refl _⟩ rfl (fun m4 hJ => ?_)
      refine zr_less (L' := [some (.ref 2), none, none, none, none]) ⟨rfl, trivial⟩ ?_
      exact s_Judge_findBest_L39    hJ
