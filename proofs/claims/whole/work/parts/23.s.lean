set_option maxHeartbeats 400000 in
theorem s_Table_yakuOfDraw_L115 {g : zk_T} {a1 : Int32} {K : Int64 → zm → Prop} {t0 : Int32} {t1 : Int64} {m : zm} (hJ : j_Table_yakuOfDraw_L115 a1  K t0 t1 m) : zq_V (zk_g g) ("RiichiTable", prog_1_method_46_code, 3, (some .long), false, zq_rm 2 0 0) 0 0 115 [some (.ref 0), some (.int a1), none] [.int t0, .long t1] (zm_hp m) (zm_QL K) := by
  unfold j_Table_yakuOfDraw_L115 at hJ
  refine zq_bipush (v := 41) d_Table_yakuOfDraw_115 zk_b41 ?_
  refine zr_csL (as := [.int t0, .int 41]) (st := [.long t1]) d_Table_yakuOfDraw_117 cc_Table_321 cs_Judge_bitIf (s_Judge_bitIf  hJ) rfl ⟨Nat.le_of_ble_eq_true rfl, Nat.le_of_ble_eq_true rfl⟩ (Nat.le_of_ble_eq_true rfl) ⟨Nat.le_refl _, Nat.le_refl _⟩ rfl (fun r16 m15 hJ => ?_)
  refine zq_lor d_Table_yakuOfDraw_120 ?_
  exact zq_lret d_Table_yakuOfDraw_121 rfl (Nat.le_refl _) (Nat.le_refl _) ⟨_, _, rfl, rfl, hJ⟩
set_option maxHeartbeats 400000 in
theorem s_Table_yakuOfDraw_L114 {g : zk_T} {a1 : Int32} {K : Int64 → zm → Prop} {t0 : Int64} {m : zm} (hJ : j_Table_yakuOfDraw_L114 a1  K t0 m) : zq_V (zk_g g) ("RiichiTable", prog_1_method_46_code, 3, (some .long), false, zq_rm 2 0 0) 0 0 114 [some (.ref 0), some (.int a1), none] [.long t0] (zm_hp m) (zm_QL K) := by
  unfold j_Table_yakuOfDraw_L114 at hJ
  refine zq_iconst (v := 0) d_Table_yakuOfDraw_114 zk_i0 ?_
  refine zr_less (L' := [some (.ref 0), some (.int a1), none]) ⟨rfl, ⟨rfl, trivial⟩⟩ ?_
  exact s_Table_yakuOfDraw_L115    hJ
set_option maxHeartbeats 400000 in
theorem s_Table_yakuOfDraw_L92 {g : zk_T} {a1 : Int32} {K : Int64 → zm → Prop} {x2 : Int32} {t0 : Int32} {t1 : Int64} {m : zm} (hJ : j_Table_yakuOfDraw_L92 a1  K x2 t0 t1 m) : zq_V (zk_g g) ("RiichiTable", prog_1_method_46_code, 3, (some .long), false, zq_rm 2 0 0) 0 0 92 [some (.ref 0), some (.int a1), some (.int x2)] [.int t0, .long t1] (zm_hp m) (zm_QL K) := by
  unfold j_Table_yakuOfDraw_L92 at hJ
  refine zq_bipush (v := 40) d_Table_yakuOfDraw_92 zk_b40 ?_
  refine zr_csL (as := [.int t0, .int 40]) (st := [.long t1]) d_Table_yakuOfDraw_94 cc_Table_321 cs_Judge_bitIf (s_Judge_bitIf  hJ) rfl ⟨Nat.le_of_ble_eq_true rfl, Nat.le_of_ble_eq_true rfl⟩ (Nat.le_of_ble_eq_true rfl) ⟨Nat.le_refl _, Nat.le_refl _⟩ rfl (fun r14 m13 hJ => ?_)
  refine zq_lor d_Table_yakuOfDraw_97 ?_
  refine zq_iload_n d_Table_yakuOfDraw_98 rfl rfl ?_
  refine zq_if_eq (tgt := 114) d_Table_yakuOfDraw_99 (by decide) (fun c => ?_) (fun c => ?_)
  · have hJ := hJ.1 c
    refine zr_less (L' := [some (.ref 0), some (.int a1), none]) ⟨rfl, ⟨rfl, trivial⟩⟩ ?_
    exact s_Table_yakuOfDraw_L114    hJ
  · have hJ := hJ.2 c
    refine zq_iload_n d_Table_yakuOfDraw_102 rfl rfl ?_
    refine zq_aload_n d_Table_yakuOfDraw_103 rfl rfl ?_
    refine zm_getI fg_Table_46 d_Table_yakuOfDraw_104 zs_Table rfl ?_
    refine zq_icmp_eq (tgt := 114) d_Table_yakuOfDraw_107 (by decide) (fun c => ?_) (fun c => ?_)
    · have hJ := hJ.1 c
      refine zr_less (L' := [some (.ref 0), some (.int a1), none]) ⟨rfl, ⟨rfl, trivial⟩⟩ ?_
      exact s_Table_yakuOfDraw_L114    hJ
    · have hJ := hJ.2 c
      refine zq_iconst (v := 1) d_Table_yakuOfDraw_110 zk_i1 ?_
      refine zq_goto (tgt := 115) d_Table_yakuOfDraw_111 (by decide) ?_
      refine zr_less (L' := [some (.ref 0), some (.int a1), none]) ⟨rfl, ⟨rfl, trivial⟩⟩ ?_
      exact s_Table_yakuOfDraw_L115    hJ
set_option maxHeartbeats 400000 in
theorem s_Table_yakuOfDraw_L91 {g : zk_T} {a1 : Int32} {K : Int64 → zm → Prop} {x2 : Int32} {t0 : Int64} {m : zm} (hJ : j_Table_yakuOfDraw_L91 a1  K x2 t0 m) : zq_V (zk_g g) ("RiichiTable", prog_1_method_46_code, 3, (some .long), false, zq_rm 2 0 0) 0 0 91 [some (.ref 0), some (.int a1), some (.int x2)] [.long t0] (zm_hp m) (zm_QL K) := by
  unfold j_Table_yakuOfDraw_L91 at hJ
  refine zq_iconst (v := 0) d_Table_yakuOfDraw_91 zk_i0 ?_
  refine zr_less (L' := [some (.ref 0), some (.int a1), some (.int x2)]) ⟨rfl, ⟨rfl, ⟨rfl, trivial⟩⟩⟩ ?_
  exact s_Table_yakuOfDraw_L92    hJ
set_option maxHeartbeats 400000 in
theorem s_Table_yakuOfDraw_L69 {g : zk_T} {a1 : Int32} {K : Int64 → zm → Prop} {x2 : Int32} {t0 : Int32} {t1 : Int64} {m : zm} (hJ : j_Table_yakuOfDraw_L69 a1  K x2 t0 t1 m) : zq_V (zk_g g) ("RiichiTable", prog_1_method_46_code, 3, (some .long), false, zq_rm 2 0 0) 0 0 69 [some (.ref 0), some (.int a1), some (.int x2)] [.int t0, .long t1] (zm_hp m) (zm_QL K) := by
  unfold j_Table_yakuOfDraw_L69 at hJ
  refine zq_bipush (v := 6) d_Table_yakuOfDraw_69 zk_b6 ?_
  refine zr_csL (as := [.int t0, .int 6]) (st := [.long t1]) d_Table_yakuOfDraw_71 cc_Table_321 cs_Judge_bitIf (s_Judge_bitIf  hJ) rfl ⟨Nat.le_of_ble_eq_true rfl, Nat.le_of_ble_eq_true rfl⟩ (Nat.le_of_ble_eq_true rfl) ⟨Nat.le_refl _, Nat.le_refl _⟩ rfl (fun r12 m11 hJ => ?_)
  refine zq_lor d_Table_yakuOfDraw_74 ?_
  refine zq_iload_n d_Table_yakuOfDraw_75 rfl rfl ?_
  refine zq_if_eq (tgt := 91) d_Table_yakuOfDraw_76 (by decide) (fun c => ?_) (fun c => ?_)
  · have hJ := hJ.1 c
    refine zr_less (L' := [some (.ref 0), some (.int a1), some (.int x2)]) ⟨rfl, ⟨rfl, ⟨rfl, trivial⟩⟩⟩ ?_
    exact s_Table_yakuOfDraw_L91    hJ
  · have hJ := hJ.2 c
    refine zq_iload_n d_Table_yakuOfDraw_79 rfl rfl ?_
    refine zq_aload_n d_Table_yakuOfDraw_80 rfl rfl ?_
    refine zm_getI fg_Table_46 d_Table_yakuOfDraw_81 zs_Table rfl ?_
    refine zq_icmp_ne (tgt := 91) d_Table_yakuOfDraw_84 (by decide) (fun c => ?_) (fun c => ?_)
    · have hJ := hJ.1 c
      refine zr_less (L' := [some (.ref 0), some (.int a1), some (.int x2)]) ⟨rfl, ⟨rfl, ⟨rfl, trivial⟩⟩⟩ ?_
      exact s_Table_yakuOfDraw_L91    hJ
    · have hJ := hJ.2 c
      refine zq_iconst (v := 1) d_Table_yakuOfDraw_87 zk_i1 ?_
      refine zq_goto (tgt := 92) d_Table_yakuOfDraw_88 (by decide) ?_
      refine zr_less (L' := [some (.ref 0), some (.int a1), some (.int x2)]) ⟨rfl, ⟨rfl, ⟨rfl, trivial⟩⟩⟩ ?_
      exact s_Table_yakuOfDraw_L92    hJ
set_option maxHeartbeats 400000 in
theorem s_Table_yakuOfDraw_L68 {g : zk_T} {a1 : Int32} {K : Int64 → zm → Prop} {x2 : Int32} {t0 : Int64} {m : zm} (hJ : j_Table_yakuOfDraw_L68 a1  K x2 t0 m) : zq_V (zk_g g) ("RiichiTable", prog_1_method_46_code, 3, (some .long), false, zq_rm 2 0 0) 0 0 68 [some (.ref 0), some (.int a1), some (.int x2)] [.long t0] (zm_hp m) (zm_QL K) := by
  unfold j_Table_yakuOfDraw_L68 at hJ
  refine zq_iconst (v := 0) d_Table_yakuOfDraw_68 zk_i0 ?_
  refine zr_less (L' := [some (.ref 0), some (.int a1), some (.int x2)]) ⟨rfl, ⟨rfl, ⟨rfl, trivial⟩⟩⟩ ?_
  exact s_Table_yakuOfDraw_L69    hJ
set_option maxHeartbeats 400000 in
theorem s_Table_yakuOfDraw_L24 {g : zk_T} {a1 : Int32} {K : Int64 → zm → Prop} {t0 : Int32} {m : zm} (hJ : j_Table_yakuOfDraw_L24 a1  K t0 m) : zq_V (zk_g g) ("RiichiTable", prog_1_method_46_code, 3, (some .long), false, zq_rm 2 0 0) 0 0 24 [some (.ref 0), some (.int a1), none] [.int t0] (zm_hp m) (zm_QL K) := by
  unfold j_Table_yakuOfDraw_L24 at hJ
  refine zr_istore_n (L' := [some (.ref 0), some (.int a1), some (.int t0)]) d_Table_yakuOfDraw_24 rfl (Nat.le_of_ble_eq_true rfl) rfl ?_
  refine zq_aload_n d_Table_yakuOfDraw_25 rfl rfl ?_
  refine zm_getR fg_Table_11 d_Table_yakuOfDraw_26 zs_Table rfl ?_
  refine zq_iload_n d_Table_yakuOfDraw_29 rfl rfl ?_
  obtain ⟨hb2, hJ⟩ := hJ
  refine zm_pld d_Table_yakuOfDraw_30 hb2 ?_
  refine zr_cvI (q := (13 + 5 * (Int32.toNatClampNeg a1))) (as := []) (st := []) d_Table_yakuOfDraw_31 cc_Table_223 cv_Player_isClosed (zm_pl_of hb2).s (s_Player_isClosed (zm_pl_of hb2) hJ) rfl ⟨Nat.le_of_ble_eq_true rfl, Nat.le_of_ble_eq_true rfl⟩ (Nat.le_of_ble_eq_true rfl) ⟨Nat.le_refl _, Nat.le_refl _⟩ rfl (fun r4 m3 hJ => ?_)
  refine zq_iconst (v := 3) d_Table_yakuOfDraw_34 zk_i3 ?_
  refine zr_csL (as := [.int r4, .int 3]) (st := []) d_Table_yakuOfDraw_35 cc_Table_321 cs_Judge_bitIf (s_Judge_bitIf  hJ) rfl ⟨Nat.le_of_ble_eq_true rfl, Nat.le_of_ble_eq_true rfl⟩ (Nat.le_of_ble_eq_true rfl) ⟨Nat.le_refl _, Nat.le_refl _⟩ rfl (fun r6 m5 hJ => ?_)
  refine zq_aload_n d_Table_yakuOfDraw_38 rfl rfl ?_
  refine zm_getI fg_Table_281 d_Table_yakuOfDraw_39 zs_Table rfl ?_
  refine zq_iconst (v := 4) d_Table_yakuOfDraw_42 zk_i4 ?_
  refine zr_csL (as := [.int (m5.1 0 10), .int 4]) (st := [.long r6]) d_Table_yakuOfDraw_43 cc_Table_321 cs_Judge_bitIf (s_Judge_bitIf  hJ) rfl ⟨Nat.le_of_ble_eq_true rfl, Nat.le_of_ble_eq_true rfl⟩ (Nat.le_of_ble_eq_true rfl) ⟨Nat.le_refl _, Nat.le_refl _⟩ rfl (fun r8 m7 hJ => ?_)
  refine zq_lor d_Table_yakuOfDraw_46 ?_
  refine zq_aload_n d_Table_yakuOfDraw_47 rfl rfl ?_
  refine zm_getI fg_Table_281 d_Table_yakuOfDraw_48 zs_Table rfl ?_
  refine zq_if_ne (tgt := 68) d_Table_yakuOfDraw_51 (by decide) (fun c => ?_) (fun c => ?_)
  · have hJ := hJ.1 c
    refine zr_less (L' := [some (.ref 0), some (.int a1), some (.int t0)]) ⟨rfl, ⟨rfl, ⟨rfl, trivial⟩⟩⟩ ?_
    exact s_Table_yakuOfDraw_L68    hJ
  · have hJ := hJ.2 c
    refine zq_aload_n d_Table_yakuOfDraw_54 rfl rfl ?_
    refine zm_getR fg_Table_34 d_Table_yakuOfDraw_55 zs_Table rfl ?_
    refine zr_cvI (q := 11) (as := []) (st := [.long (r6 ||| r8)]) d_Table_yakuOfDraw_58 cc_Table_106 cv_Wall_countLeft zs_Wall (s_Wall_countLeft  hJ) rfl ⟨Nat.le_of_ble_eq_true rfl, Nat.le_of_ble_eq_true rfl⟩ (Nat.le_of_ble_eq_true rfl) ⟨Nat.le_refl _, Nat.le_refl _⟩ rfl (fun r10 m9 hJ => ?_)
    refine zq_if_ne (tgt := 68) d_Table_yakuOfDraw_61 (by decide) (fun c => ?_) (fun c => ?_)
    · have hJ := hJ.1 c
      refine zr_less (L' := [some (.ref 0), some (.int a1), some (.int t0)]) ⟨rfl, ⟨rfl, ⟨rfl, trivial⟩⟩⟩ ?_
      exact s_Table_yakuOfDraw_L68    hJ
    · have hJ := hJ.2 c
      refine zq_iconst (v := 1) d_Table_yakuOfDraw_64 zk_i1 ?_
      refine zq_goto (tgt := 69) d_Table_yakuOfDraw_65 (by decide) ?_
      refine zr_less (L' := [some (.ref 0), some (.int a1), some (.int t0)]) ⟨rfl, ⟨rfl, ⟨rfl, trivial⟩⟩⟩ ?_
      exact s_Table_yakuOfDraw_L69    hJ
set_option maxHeartbeats 400000 in
theorem s_Table_yakuOfDraw_L23 {g : zk_T} {a1 : Int32} {K : Int64 → zm → Prop} {m : zm} (hJ : j_Table_yakuOfDraw_L23 a1  K  m) : zq_V (zk_g g) ("RiichiTable", prog_1_method_46_code, 3, (some .long), false, zq_rm 2 0 0) 0 0 23 [some (.ref 0), some (.int a1), none] [] (zm_hp m) (zm_QL K) := by
  unfold j_Table_yakuOfDraw_L23 at hJ
  refine zq_iconst (v := 0) d_Table_yakuOfDraw_23 zk_i0 ?_
  refine zr_less (L' := [some (.ref 0), some (.int a1), none]) ⟨rfl, ⟨rfl, trivial⟩⟩ ?_
  exact s_Table_yakuOfDraw_L24    hJ
set_option maxHeartbeats 400000 in
theorem s_Table_yakuOfDraw {g : zk_T} {a1 : Int32} {K : Int64 → zm → Prop} {m : zm} (hJ : j_Table_yakuOfDraw a1 m K) : zq_Mt (zk_g g) y_Table_yakuOfDraw 2 0 0 [.ref 0, .int a1] (zm_hp m) (zm_QL K) := by
  unfold j_Table_yakuOfDraw at hJ
  refine zq_meth (ini := false) rfl (fun h => by cases h) (Nat.le_of_ble_eq_true rfl) ?_
  refine zr_L (F := ("RiichiTable", prog_1_method_46_code, 3, (some .long), false, zq_rm 2 0 0)) (L' := [some (.ref 0), some (.int a1), none]) rfl ?_
  refine zq_aload_n d_Table_yakuOfDraw_0 rfl rfl ?_
  refine zm_getR fg_Table_11 d_Table_yakuOfDraw_1 zs_Table rfl ?_
  refine zq_iload_n d_Table_yakuOfDraw_4 rfl rfl ?_
  obtain ⟨hb1, hJ⟩ := hJ
  refine zm_pld d_Table_yakuOfDraw_5 hb1 ?_
  refine zm_getI fg_Table_81 d_Table_yakuOfDraw_6 (zm_pl_of hb1).s rfl ?_
  refine zq_if_ne (tgt := 23) d_Table_yakuOfDraw_9 (by decide) (fun c => ?_) (fun c => ?_)
  · have hJ := hJ.1 c
    refine zr_less (L' := [some (.ref 0), some (.int a1), none]) ⟨rfl, ⟨rfl, trivial⟩⟩ ?_
    exact s_Table_yakuOfDraw_L23    hJ
  · have hJ := hJ.2 c
    refine zq_aload_n d_Table_yakuOfDraw_12 rfl rfl ?_
    refine zm_getI fg_Table_60 d_Table_yakuOfDraw_13 zs_Table rfl ?_
    refine zq_if_ne (tgt := 23) d_Table_yakuOfDraw_16 (by decide) (fun c => ?_) (fun c => ?_)
    · have hJ := hJ.1 c
      refine zr_less (L' := [some (.ref 0), some (.int a1), none]) ⟨rfl, ⟨rfl, trivial⟩⟩ ?_
      exact s_Table_yakuOfDraw_L23    hJ
    · have hJ := hJ.2 c
      refine zq_iconst (v := 1) d_Table_yakuOfDraw_19 zk_i1 ?_
      refine zq_goto (tgt := 24) d_Table_yakuOfDraw_20 (by decide) ?_
      refine zr_less (L' := [some (.ref 0), some (.int a1), none]) ⟨rfl, ⟨rfl, trivial⟩⟩ ?_
      exact s_Table_yakuOfDraw_L24    hJ
set_option maxHeartbeats 400000 in
theorem s_Table_yakuOfRiichi_L54 {g : zk_T} {r0 : Nat} (hr0 : zm_pl r0) {K : Int64 → zm → Prop} {t0 : Int32} {t1 : Int64} {m : zm} (hJ : j_Table_yakuOfRiichi_L54 r0  K t0 t1 m) : zq_V (zk_g g) ("RiichiTable", prog_1_method_45_code, 1, (some .long), false, zq_rm 1 0 0) 0 0 54 [some (.ref r0)] [.int t0, .long t1] (zm_hp m) (zm_QL K) := by
  unfold j_Table_yakuOfRiichi_L54 at hJ
  refine zq_iconst (v := 2) d_Table_yakuOfRiichi_54 zk_i2 ?_
  refine zr_csL (as := [.int t0, .int 2]) (st := [.long t1]) d_Table_yakuOfRiichi_55 cc_Table_321 cs_Judge_bitIf (s_Judge_bitIf  hJ) rfl ⟨Nat.le_of_ble_eq_true rfl, Nat.le_of_ble_eq_true rfl⟩ (Nat.le_of_ble_eq_true rfl) ⟨Nat.le_refl _, Nat.le_refl _⟩ rfl (fun r6 m5 hJ => ?_)
  refine zq_lor d_Table_yakuOfRiichi_58 ?_
  exact zq_lret d_Table_yakuOfRiichi_59 rfl (Nat.le_refl _) (Nat.le_refl _) ⟨_, _, rfl, rfl, hJ⟩
set_option maxHeartbeats 400000 in
theorem s_Table_yakuOfRiichi_L53 {g : zk_T} {r0 : Nat} (hr0 : zm_pl r0) {K : Int64 → zm → Prop} {t0 : Int64} {m : zm} (hJ : j_Table_yakuOfRiichi_L53 r0  K t0 m) : zq_V (zk_g g) ("RiichiTable", prog_1_method_45_code, 1, (some .long), false, zq_rm 1 0 0) 0 0 53 [some (.ref r0)] [.long t0] (zm_hp m) (zm_QL K) := by
  unfold j_Table_yakuOfRiichi_L53 at hJ
  refine zq_iconst (v := 0) d_Table_yakuOfRiichi_53 zk_i0 ?_
  refine zr_less (L' := [some (.ref r0)]) ⟨rfl, trivial⟩ ?_
  exact s_Table_yakuOfRiichi_L54 hr0   hJ
set_option maxHeartbeats 400000 in
theorem s_Table_yakuOfRiichi_L30 {g : zk_T} {r0 : Nat} (hr0 : zm_pl r0) {K : Int64 → zm → Prop} {t0 : Int32} {t1 : Int64} {m : zm} (hJ : j_Table_yakuOfRiichi_L30 r0  K t0 t1 m) : zq_V (zk_g g) ("RiichiTable", prog_1_method_45_code, 1, (some .long), false, zq_rm 1 0 0) 0 0 30 [some (.ref r0)] [.int t0, .long t1] (zm_hp m) (zm_QL K) := by
  unfold j_Table_yakuOfRiichi_L30 at hJ
  refine zq_iconst (v := 1) d_Table_yakuOfRiichi_30 zk_i1 ?_
  refine zr_csL (as := [.int t0, .int 1]) (st := [.long t1]) d_Table_yakuOfRiichi_31 cc_Table_321 cs_Judge_bitIf (s_Judge_bitIf  hJ) rfl ⟨Nat.le_of_ble_eq_true rfl, Nat.le_of_ble_eq_true rfl⟩ (Nat.le_of_ble_eq_true rfl) ⟨Nat.le_refl _, Nat.le_refl _⟩ rfl (fun r4 m3 hJ => ?_)
  refine zq_lor d_Table_yakuOfRiichi_34 ?_
  refine zq_aload_n d_Table_yakuOfRiichi_35 rfl rfl ?_
  refine zm_getI fg_Table_74 d_Table_yakuOfRiichi_36 hr0.s rfl ?_
  refine zq_if_eq (tgt := 53) d_Table_yakuOfRiichi_39 (by decide) (fun c => ?_) (fun c => ?_)
  · have hJ := hJ.1 c
    refine zr_less (L' := [some (.ref r0)]) ⟨rfl, trivial⟩ ?_
    exact s_Table_yakuOfRiichi_L53 hr0   hJ
  · have hJ := hJ.2 c
    refine zq_aload_n d_Table_yakuOfRiichi_42 rfl rfl ?_
    refine zm_getI fg_Table_87 d_Table_yakuOfRiichi_43 hr0.s rfl ?_
    refine zq_if_eq (tgt := 53) d_Table_yakuOfRiichi_46 (by decide) (fun c => ?_) (fun c => ?_)
    · have hJ := hJ.1 c
      refine zr_less (L' := [some (.ref r0)]) ⟨rfl, trivial⟩ ?_
      exact s_Table_yakuOfRiichi_L53 hr0   hJ
    · have hJ := hJ.2 c
      refine zq_iconst (v := 1) d_Table_yakuOfRiichi_49 zk_i1 ?_
      refine zq_goto (tgt := 54) d_Table_yakuOfRiichi_50 (by decide) ?_
      refine zr_less (L' := [some (.ref r0)]) ⟨rfl, trivial⟩ ?_
      exact s_Table_yakuOfRiichi_L54 hr0   hJ
set_option maxHeartbeats 400000 in
theorem s_Table_yakuOfRiichi_L13 {g : zk_T} {r0 : Nat} (hr0 : zm_pl r0) {K : Int64 → zm → Prop} {t0 : Int32} {m : zm} (hJ : j_Table_yakuOfRiichi_L13 r0  K t0 m) : zq_V (zk_g g) ("RiichiTable", prog_1_method_45_code, 1, (some .long), false, zq_rm 1 0 0) 0 0 13 [some (.ref r0)] [.int t0] (zm_hp m) (zm_QL K) := by
  unfold j_Table_yakuOfRiichi_L13 at hJ
  refine zq_iconst (v := 0) d_Table_yakuOfRiichi_13 zk_i0 ?_
  refine zr_csL (as := [.int t0, .int 0]) (st := []) d_Table_yakuOfRiichi_14 cc_Table_321 cs_Judge_bitIf (s_Judge_bitIf  hJ) rfl ⟨Nat.le_of_ble_eq_true rfl, Nat.le_of_ble_eq_true rfl⟩ (Nat.le_of_ble_eq_true rfl) ⟨Nat.le_refl _, Nat.le_refl _⟩ rfl (fun r2 m1 hJ => ?_)
  refine zq_aload_n d_Table_yakuOfRiichi_17 rfl rfl ?_
  refine zm_getI fg_Table_74 d_Table_yakuOfRiichi_18 hr0.s rfl ?_
  refine zq_iconst (v := 2) d_Table_yakuOfRiichi_21 zk_i2 ?_
  refine zq_icmp_ne (tgt := 29) d_Table_yakuOfRiichi_22 (by decide) (fun c => ?_) (fun c => ?_)
  · have hJ := hJ.1 c
    refine zq_iconst (v := 0) d_Table_yakuOfRiichi_29 zk_i0 ?_
    refine zr_less (L' := [some (.ref r0)]) ⟨rfl, trivial⟩ ?_
    exact s_Table_yakuOfRiichi_L30 hr0   hJ
  · have hJ := hJ.2 c
    refine zq_iconst (v := 1) d_Table_yakuOfRiichi_25 zk_i1 ?_
    refine zq_goto (tgt := 30) d_Table_yakuOfRiichi_26 (by decide) ?_
    refine zr_less (L' := [some (.ref r0)]) ⟨rfl, trivial⟩ ?_
    exact s_Table_yakuOfRiichi_L30 hr0   hJ
set_option maxHeartbeats 400000 in
theorem s_Table_yakuOfRiichi {g : zk_T} {r0 : Nat} (hr0 : zm_pl r0) {K : Int64 → zm → Prop} {m : zm} (hJ : j_Table_yakuOfRiichi r0 m K) : zq_Mt (zk_g g) y_Table_yakuOfRiichi 1 0 0 [.ref r0] (zm_hp m) (zm_QL K) := by
  unfold j_Table_yakuOfRiichi at hJ
  refine zq_meth (ini := false) rfl (fun h => by cases h) (Nat.le_of_ble_eq_true rfl) ?_
  refine zr_L (F := ("RiichiTable", prog_1_method_45_code, 1, (some .long), false, zq_rm 1 0 0)) (L' := [some (.ref r0)]) rfl ?_
  refine zq_aload_n d_Table_yakuOfRiichi_0 rfl rfl ?_
  refine zm_getI fg_Table_74 d_Table_yakuOfRiichi_1 hr0.s rfl ?_
  refine zq_iconst (v := 1) d_Table_yakuOfRiichi_4 zk_i1 ?_
  refine zq_icmp_ne (tgt := 12) d_Table_yakuOfRiichi_5 (by decide) (fun c => ?_) (fun c => ?_)
  · have hJ := hJ.1 c
    refine zq_iconst (v := 0) d_Table_yakuOfRiichi_12 zk_i0 ?_
    refine zr_less (L' := [some (.ref r0)]) ⟨rfl, trivial⟩ ?_
    exact s_Table_yakuOfRiichi_L13 hr0   hJ
  · have hJ := hJ.2 c
    refine zq_iconst (v := 1) d_Table_yakuOfRiichi_8 zk_i1 ?_
    refine zq_goto (tgt := 13) d_Table_yakuOfRiichi_9 (by decide) ?_
    refine zr_less (L' := [some (.ref r0)]) ⟨rfl, trivial⟩ ?_
    exact s_Table_yakuOfRiichi_L13 hr0   hJ
set_option maxHeartbeats 400000 in
theorem s_Table_yakuOfTile_L30 {g : zk_T} {K : Int64 → zm → Prop} {t0 : Int32} {t1 : Int64} {m : zm} (hJ : j_Table_yakuOfTile_L30   K t0 t1 m) : zq_V (zk_g g) ("RiichiTable", prog_1_method_47_code, 1, (some .long), false, zq_rm 2 0 0) 0 0 30 [some (.ref 0)] [.int t0, .long t1] (zm_hp m) (zm_QL K) := by
  unfold j_Table_yakuOfTile_L30 at hJ
  refine zq_bipush (v := 7) d_Table_yakuOfTile_30 zk_b7 ?_
  refine zr_csL (as := [.int t0, .int 7]) (st := [.long t1]) d_Table_yakuOfTile_32 cc_Table_321 cs_Judge_bitIf (s_Judge_bitIf  hJ) rfl ⟨Nat.le_of_ble_eq_true rfl, Nat.le_of_ble_eq_true rfl⟩ (Nat.le_of_ble_eq_true rfl) ⟨Nat.le_refl _, Nat.le_refl _⟩ rfl (fun r6 m5 hJ => ?_)
  refine zq_lor d_Table_yakuOfTile_35 ?_
  exact zq_lret d_Table_yakuOfTile_36 rfl (Nat.le_refl _) (Nat.le_refl _) ⟨_, _, rfl, rfl, hJ⟩
set_option maxHeartbeats 400000 in
theorem s_Table_yakuOfTile_L29 {g : zk_T} {K : Int64 → zm → Prop} {t0 : Int64} {m : zm} (hJ : j_Table_yakuOfTile_L29   K t0 m) : zq_V (zk_g g) ("RiichiTable", prog_1_method_47_code, 1, (some .long), false, zq_rm 2 0 0) 0 0 29 [some (.ref 0)] [.long t0] (zm_hp m) (zm_QL K) := by
  unfold j_Table_yakuOfTile_L29 at hJ
  refine zq_iconst (v := 0) d_Table_yakuOfTile_29 zk_i0 ?_
  refine zr_less (L' := [some (.ref 0)]) ⟨rfl, trivial⟩ ?_
  exact s_Table_yakuOfTile_L30    hJ
set_option maxHeartbeats 400000 in
theorem s_Table_yakuOfTile {g : zk_T} {K : Int64 → zm → Prop} {m : zm} (hJ : j_Table_yakuOfTile  m K) : zq_Mt (zk_g g) y_Table_yakuOfTile 2 0 0 [.ref 0] (zm_hp m) (zm_QL K) := by
  unfold j_Table_yakuOfTile at hJ
  refine zq_meth (ini := false) rfl (fun h => by cases h) (Nat.le_of_ble_eq_true rfl) ?_
  refine zr_L (F := ("RiichiTable", prog_1_method_47_code, 1, (some .long), false, zq_rm 2 0 0)) (L' := [some (.ref 0)]) rfl ?_
  refine zq_aload_n d_Table_yakuOfTile_0 rfl rfl ?_
  refine zm_getI fg_Table_93 d_Table_yakuOfTile_1 zs_Table rfl ?_
  refine zq_iconst (v := 5) d_Table_yakuOfTile_4 zk_i5 ?_
  refine zr_csL (as := [.int (m.1 0 11), .int 5]) (st := []) d_Table_yakuOfTile_5 cc_Table_321 cs_Judge_bitIf (s_Judge_bitIf  hJ) rfl ⟨Nat.le_of_ble_eq_true rfl, Nat.le_of_ble_eq_true rfl⟩ (Nat.le_of_ble_eq_true rfl) ⟨Nat.le_refl _, Nat.le_refl _⟩ rfl (fun r2 m1 hJ => ?_)
  refine zq_aload_n d_Table_yakuOfTile_8 rfl rfl ?_
  refine zm_getI fg_Table_93 d_Table_yakuOfTile_9 zs_Table rfl ?_
  refine zq_if_ne (tgt := 29) d_Table_yakuOfTile_12 (by decide) (fun c => ?_) (fun c => ?_)
  · have hJ := hJ.1 c
    refine zr_less (L' := [some (.ref 0)]) ⟨rfl, trivial⟩ ?_
    exact s_Table_yakuOfTile_L29    hJ
  · have hJ := hJ.2 c
    refine zq_aload_n d_Table_yakuOfTile_15 rfl rfl ?_
    refine zm_getR fg_Table_34 d_Table_yakuOfTile_16 zs_Table rfl ?_
    refine zr_cvI (q := 11) (as := []) (st := [.long r2]) d_Table_yakuOfTile_19 cc_Table_106 cv_Wall_countLeft zs_Wall (s_Wall_countLeft  hJ) rfl ⟨Nat.le_of_ble_eq_true rfl, Nat.le_of_ble_eq_true rfl⟩ (Nat.le_of_ble_eq_true rfl) ⟨Nat.le_refl _, Nat.le_refl _⟩ rfl (fun r4 m3 hJ => ?_)
    refine zq_if_ne (tgt := 29) d_Table_yakuOfTile_22 (by decide) (fun c => ?_) (fun c => ?_)
    · have hJ := hJ.1 c
      refine zr_less (L' := [some (.ref 0)]) ⟨rfl, trivial⟩ ?_
      exact s_Table_yakuOfTile_L29    hJ
    · have hJ := hJ.2 c
      refine zq_iconst (v := 1) d_Table_yakuOfTile_25 zk_i1 ?_
      refine zq_goto (tgt := 30) d_Table_yakuOfTile_26 (by decide) ?_
      refine zr_less (L' := [some (.ref 0)]) ⟨rfl, trivial⟩ ?_
      exact s_Table_yakuOfTile_L30    hJ
set_option maxHeartbeats 400000 in
theorem s_Table_showHand_L109 {g : zk_T} {a1 : Int32} {a2 : Int32} {K : zm → Prop} {t0 : Int32} {m : zm} (hJ : j_Table_showHand_L109 a1 a2  K t0 m) : zq_V (zk_g g) ("RiichiTable", prog_1_method_44_code, 4, none, false, zq_rm 3 0 0) 0 0 109 [some (.ref 0), some (.int a1), some (.int a2), none] [.int t0, .ref 7, .ref 11, .ref 2] (zm_hp m) (zm_QV K) := by
  unfold j_Table_showHand_L109 at hJ
  refine zr_cvI (q := 11) (as := [.ref 7, .int t0]) (st := [.ref 2]) d_Table_showHand_109 cc_Table_314 cv_Wall_countDora zs_Wall (s_Wall_countDora (rfl : zm_sh[7]? = some (.inl (0, 34, .inl (fun _ => 0)))) hJ) rfl ⟨Nat.le_of_ble_eq_true rfl, Nat.le_of_ble_eq_true rfl⟩ (Nat.le_of_ble_eq_true rfl) ⟨Nat.le_refl _, Nat.le_refl _⟩ rfl (fun r14 m13 hJ => ?_)
  refine zr_putI fl_Table_318 d_Table_showHand_112 zs_Judge rfl rfl (fun m15 hm15 => ?_)
  have hJ := hJ m15 hm15
  exact zq_vret d_Table_showHand_115 rfl (Nat.le_refl _) (Nat.le_refl _) ⟨_, rfl, rfl, hJ⟩
set_option maxHeartbeats 400000 in
theorem s_Table_showHand_L78 {g : zk_T} {a1 : Int32} {a2 : Int32} {K : zm → Prop} {r3 : Nat} {t0 : Int64} {t1 : Int64} {m : zm} (hr3 : zm_pl r3) (hJ : j_Table_showHand_L78 a1 a2  K r3 t0 t1 m) : zq_V (zk_g g) ("RiichiTable", prog_1_method_44_code, 4, none, false, zq_rm 3 0 0) 0 0 78 [some (.ref 0), some (.int a1), some (.int a2), some (.ref r3)] [.long t0, .long t1, .ref 2] (zm_hp m) (zm_QV K) := by
  unfold j_Table_showHand_L78 at hJ
  refine zq_lor d_Table_showHand_78 ?_
  refine zr_putL fl_Table_308 d_Table_showHand_79 zs_Judge rfl rfl (fun m12 hm12 => ?_)
  have hJ := hJ m12 hm12
  refine zq_aload_n d_Table_showHand_82 rfl rfl ?_
  refine zm_getR fg_Table_18 d_Table_showHand_83 zs_Table rfl ?_
  refine zq_aload_n d_Table_showHand_86 rfl rfl ?_
  refine zm_getR fg_Table_34 d_Table_showHand_87 zs_Table rfl ?_
  refine zq_aload_n d_Table_showHand_90 rfl rfl ?_
  refine zm_getR fg_Table_18 d_Table_showHand_91 zs_Table rfl ?_
  refine zm_getR fg_Table_311 d_Table_showHand_94 zs_Judge rfl ?_
  refine zq_aload_n d_Table_showHand_97 rfl rfl ?_
  refine zm_getI fg_Table_74 d_Table_showHand_98 hr3.s rfl ?_
  refine zq_if_eq (tgt := 108) d_Table_showHand_101 (by decide) (fun c => ?_) (fun c => ?_)
  · have hJ := hJ.1 c
    refine zq_iconst (v := 0) d_Table_showHand_108 zk_i0 ?_
    refine zr_less (L' := [some (.ref 0), some (.int a1), some (.int a2), none]) ⟨rfl, ⟨rfl, ⟨rfl, trivial⟩⟩⟩ ?_
    exact s_Table_showHand_L109    hJ
  · have hJ := hJ.2 c
    refine zq_iconst (v := 1) d_Table_showHand_104 zk_i1 ?_
    refine zq_goto (tgt := 109) d_Table_showHand_105 (by decide) ?_
    refine zr_less (L' := [some (.ref 0), some (.int a1), some (.int a2), none]) ⟨rfl, ⟨rfl, ⟨rfl, trivial⟩⟩⟩ ?_
    exact s_Table_showHand_L109    hJ
set_option maxHeartbeats 400000 in
theorem s_Table_showHand {g : zk_T} {a1 : Int32} {a2 : Int32} {K : zm → Prop} {m : zm} (hJ : j_Table_showHand a1 a2 m K) : zq_Mt (zk_g g) y_Table_showHand 3 0 0 [.ref 0, .int a1, .int a2] (zm_hp m) (zm_QV K) := by
  unfold j_Table_showHand at hJ
  refine zq_meth (ini := false) rfl (fun h => by cases h) (Nat.le_of_ble_eq_true rfl) ?_
  refine zr_L (F := ("RiichiTable", prog_1_method_44_code, 4, none, false, zq_rm 3 0 0)) (L' := [some (.ref 0), some (.int a1), some (.int a2), none]) rfl ?_
  refine zq_aload_n d_Table_showHand_0 rfl rfl ?_
  refine zm_getR fg_Table_11 d_Table_showHand_1 zs_Table rfl ?_
  refine zq_iload_n d_Table_showHand_4 rfl rfl ?_
  obtain ⟨hb1, hJ⟩ := hJ
  refine zm_pld d_Table_showHand_5 hb1 ?_
  refine zr_topr (fun y2 hy2 => ?_)
  have hJ := hJ y2 hy2
  refine zr_astore_n (L' := [some (.ref 0), some (.int a1), some (.int a2), some (.ref y2)]) d_Table_showHand_6 rfl (Nat.le_of_ble_eq_true rfl) rfl ?_
  refine zq_aload_n d_Table_showHand_7 rfl rfl ?_
  refine zm_getR fg_Table_18 d_Table_showHand_8 zs_Table rfl ?_
  refine zq_aload_n d_Table_showHand_11 rfl rfl ?_
  refine zq_aload_n d_Table_showHand_12 rfl rfl ?_
  refine zm_getI fg_Table_26 d_Table_showHand_13 zs_Table rfl ?_
  refine zq_iload_n d_Table_showHand_16 rfl rfl ?_
  refine zr_cvV (q := 2) (as := [.ref y2, .int (m.1 0 9), .int a2]) (st := []) d_Table_showHand_17 cc_Table_287 cv_Judge_lookAt zs_Judge (s_Judge_lookAt (hy2.symm ▸ (zm_pl_of hb1) : zm_pl y2) hJ) rfl ⟨Nat.le_of_ble_eq_true rfl, Nat.le_of_ble_eq_true rfl⟩ (Nat.le_of_ble_eq_true rfl) ⟨Nat.le_refl _, Nat.le_refl _⟩ rfl (fun m3 hJ => ?_)
  refine zq_aload_n d_Table_showHand_20 rfl rfl ?_
  refine zm_getR fg_Table_18 d_Table_showHand_21 zs_Table rfl ?_
  refine zq_bipush (v := 27) d_Table_showHand_24 zk_b27 ?_
  refine zq_iload_n d_Table_showHand_26 rfl rfl ?_
  refine zq_iconst (v := 4) d_Table_showHand_27 zk_i4 ?_
  refine zq_iadd d_Table_showHand_28 ?_
  refine zq_aload_n d_Table_showHand_29 rfl rfl ?_
  refine zm_getI fg_Table_46 d_Table_showHand_30 zs_Table rfl ?_
  refine zq_isub d_Table_showHand_33 ?_
  refine zq_iconst (v := 4) d_Table_showHand_34 zk_i4 ?_
  refine zq_irem d_Table_showHand_35 (by decide) ?_
  refine zq_iadd d_Table_showHand_36 ?_
  refine zr_putI fl_Table_291 d_Table_showHand_37 zs_Judge rfl rfl (fun m4 hm4 => ?_)
  have hJ := hJ m4 hm4
  refine zq_aload_n d_Table_showHand_40 rfl rfl ?_
  refine zm_getR fg_Table_18 d_Table_showHand_41 zs_Table rfl ?_
  refine zq_bipush (v := 27) d_Table_showHand_44 zk_b27 ?_
  refine zq_aload_n d_Table_showHand_46 rfl rfl ?_
  refine zm_getI fg_Table_207 d_Table_showHand_47 zs_Table rfl ?_
  refine zq_iadd d_Table_showHand_50 ?_
  refine zr_putI fl_Table_294 d_Table_showHand_51 zs_Judge rfl rfl (fun m5 hm5 => ?_)
  have hJ := hJ m5 hm5
  refine zq_aload_n d_Table_showHand_54 rfl rfl ?_
  refine zm_getR fg_Table_18 d_Table_showHand_55 zs_Table rfl ?_
  refine zq_aload_n d_Table_showHand_58 rfl rfl ?_
  refine zr_csL (as := [.ref y2]) (st := [.ref 2]) d_Table_showHand_59 cc_Table_297 cs_Table_yakuOfRiichi (s_Table_yakuOfRiichi (hy2.symm ▸ (zm_pl_of hb1) : zm_pl y2) hJ) rfl ⟨Nat.le_of_ble_eq_true rfl, Nat.le_of_ble_eq_true rfl⟩ (Nat.le_of_ble_eq_true rfl) ⟨Nat.le_refl _, Nat.le_refl _⟩ rfl (fun r7 m6 hJ => ?_)
  refine zq_iload_n d_Table_showHand_62 rfl rfl ?_
  refine zq_if_eq (tgt := 74) d_Table_showHand_63 (by decide) (fun c => ?_) (fun c => ?_)
  · have hJ := hJ.1 c
    refine zq_aload_n d_Table_showHand_74 rfl rfl ?_
    refine zr_cvL (q := 0) (as := []) (st := [.long r7, .ref 2]) d_Table_showHand_75 cc_Table_305 cv_Table_yakuOfTile zs_Table (s_Table_yakuOfTile  hJ) rfl ⟨Nat.le_of_ble_eq_true rfl, Nat.le_of_ble_eq_true rfl⟩ (Nat.le_of_ble_eq_true rfl) ⟨Nat.le_refl _, Nat.le_refl _⟩ rfl (fun r9 m8 hJ => ?_)
    refine zr_less (L' := [some (.ref 0), some (.int a1), some (.int a2), some (.ref y2)]) ⟨rfl, ⟨rfl, ⟨rfl, ⟨rfl, trivial⟩⟩⟩⟩ ?_
    exact s_Table_showHand_L78   (hy2.symm ▸ (zm_pl_of hb1) : zm_pl y2) hJ
  · have hJ := hJ.2 c
    refine zq_aload_n d_Table_showHand_66 rfl rfl ?_
    refine zq_iload_n d_Table_showHand_67 rfl rfl ?_
    refine zr_cvL (q := 0) (as := [.int a1]) (st := [.long r7, .ref 2]) d_Table_showHand_68 cc_Table_301 cv_Table_yakuOfDraw zs_Table (s_Table_yakuOfDraw  hJ) rfl ⟨Nat.le_of_ble_eq_true rfl, Nat.le_of_ble_eq_true rfl⟩ (Nat.le_of_ble_eq_true rfl) ⟨Nat.le_refl _, Nat.le_refl _⟩ rfl (fun r11 m10 hJ => ?_)
    refine zq_goto (tgt := 78) d_Table_showHand_71 (by decide) ?_
    refine zr_less (L' := [some (.ref 0), some (.int a1), some (.int a2), some (.ref y2)]) ⟨rfl, ⟨rfl, ⟨rfl, ⟨rfl, trivial⟩⟩⟩⟩ ?_
    exact s_Table_showHand_L78   (hy2.symm ▸ (zm_pl_of hb1) : zm_pl y2) hJ
set_option maxHeartbeats 400000 in
theorem s_Table_mayWin_L28 {g : zk_T} {a1 : Int32} {K : Int32 → zm → Prop} {m : zm} (hJ : j_Table_mayWin_L28 a1  K  m) : zq_V (zk_g g) ("RiichiTable", prog_1_method_30_code, 2, (some .boolean), false, zq_rm 85 0 0) 0 0 28 [some (.ref 0), some (.int a1)] [] (zm_hp m) (zm_QI K) := by
  unfold j_Table_mayWin_L28 at hJ
  refine zq_iconst (v := 0) d_Table_mayWin_28 zk_i0 ?_
  exact zq_iret d_Table_mayWin_29 rfl (zm_isB.nar (Or.inl rfl)) (Nat.le_refl _) (Nat.le_refl _) ⟨_, _, rfl, rfl, hJ⟩
set_option maxHeartbeats 400000 in
theorem s_Table_mayWin {g : zk_T} {a1 : Int32} {K : Int32 → zm → Prop} {m : zm} (hJ : j_Table_mayWin a1 m K) : zq_Mt (zk_g g) y_Table_mayWin 85 0 0 [.ref 0, .int a1] (zm_hp m) (zm_QI K) := by
  unfold j_Table_mayWin at hJ
  refine zq_meth (ini := false) rfl (fun h => by cases h) (Nat.le_of_ble_eq_true rfl) ?_
  refine zr_L (F := ("RiichiTable", prog_1_method_30_code, 2, (some .boolean), false, zq_rm 85 0 0)) (L' := [some (.ref 0), some (.int a1)]) rfl ?_
  refine zq_aload_n d_Table_mayWin_0 rfl rfl ?_
  refine zm_getR fg_Table_11 d_Table_mayWin_1 zs_Table rfl ?_
  refine zq_iload_n d_Table_mayWin_4 rfl rfl ?_
  obtain ⟨hb1, hJ⟩ := hJ
  refine zm_pld d_Table_mayWin_5 hb1 ?_
  refine zq_aload_n d_Table_mayWin_6 rfl rfl ?_
  refine zm_getI fg_Table_26 d_Table_mayWin_7 zs_Table rfl ?_
  refine zr_cvI (q := (13 + 5 * (Int32.toNatClampNeg a1))) (as := [.int (m.1 0 9)]) (st := []) d_Table_mayWin_10 cc_Table_232 cv_Player_isWait (zm_pl_of hb1).s (s_Player_isWait (zm_pl_of hb1) hJ) rfl ⟨Nat.le_of_ble_eq_true rfl, Nat.le_of_ble_eq_true rfl⟩ (Nat.le_of_ble_eq_true rfl) ⟨Nat.le_refl _, Nat.le_refl _⟩ rfl (fun r3 m2 hJ => ?_)
  refine zq_if_eq (tgt := 28) d_Table_mayWin_13 (by decide) (fun c => ?_) (fun c => ?_)
  · have hJ := hJ.1 c
    refine zr_less (L' := [some (.ref 0), some (.int a1)]) ⟨rfl, ⟨rfl, trivial⟩⟩ ?_
    exact s_Table_mayWin_L28    hJ
  · have hJ := hJ.2 c
    refine zq_aload_n d_Table_mayWin_16 rfl rfl ?_
    refine zm_getR fg_Table_11 d_Table_mayWin_17 zs_Table rfl ?_
    refine zq_iload_n d_Table_mayWin_20 rfl rfl ?_
    obtain ⟨hb4, hJ⟩ := hJ
    refine zm_pld d_Table_mayWin_21 hb4 ?_
    refine zr_cvI (q := (13 + 5 * (Int32.toNatClampNeg a1))) (as := []) (st := []) d_Table_mayWin_22 cc_Table_204 cv_Player_isFuriten (zm_pl_of hb4).s (s_Player_isFuriten (zm_pl_of hb4) hJ) rfl ⟨Nat.le_of_ble_eq_true rfl, Nat.le_of_ble_eq_true rfl⟩ (Nat.le_of_ble_eq_true rfl) ⟨Nat.le_refl _, Nat.le_refl _⟩ rfl (fun r6 m5 hJ => ?_)
    refine zq_if_eq (tgt := 30) d_Table_mayWin_25 (by decide) (fun c => ?_) (fun c => ?_)
    · have hJ := hJ.1 c
      refine zq_aload_n d_Table_mayWin_30 rfl rfl ?_
      refine zq_iload_n d_Table_mayWin_31 rfl rfl ?_
      refine zq_iconst (v := 0) d_Table_mayWin_32 zk_i0 ?_
      refine zr_cvV (q := 0) (as := [.int a1, .int 0]) (st := []) d_Table_mayWin_33 cc_Table_123 cv_Table_showHand zs_Table (s_Table_showHand  hJ) rfl ⟨Nat.le_of_ble_eq_true rfl, Nat.le_of_ble_eq_true rfl⟩ (Nat.le_of_ble_eq_true rfl) ⟨Nat.le_refl _, Nat.le_refl _⟩ rfl (fun m7 hJ => ?_)
      refine zq_aload_n d_Table_mayWin_36 rfl rfl ?_
      refine zm_getR fg_Table_18 d_Table_mayWin_37 zs_Table rfl ?_
      refine zr_cvI (q := 2) (as := []) (st := []) d_Table_mayWin_40 cc_Table_127 cv_Judge_findBest zs_Judge (s_Judge_findBest  hJ) rfl ⟨Nat.le_of_ble_eq_true rfl, Nat.le_of_ble_eq_true rfl⟩ (Nat.le_of_ble_eq_true rfl) ⟨Nat.le_refl _, Nat.le_refl _⟩ rfl (fun r9 m8 hJ => ?_)
      exact zq_iret d_Table_mayWin_43 rfl hJ.1.nar (Nat.le_refl _) (Nat.le_refl _) ⟨_, _, rfl, rfl, hJ.2⟩
    · have hJ := hJ.2 c
      refine zr_less (L' := [some (.ref 0), some (.int a1)]) ⟨rfl, ⟨rfl, trivial⟩⟩ ?_
      exact s_Table_mayWin_L28    hJ
set_option maxHeartbeats 400000 in
theorem s_Table_offerClaims_L52 {g : zk_T} {R2 : Int32 → zm → Prop} {K : Int32 → zm → Prop} (hR2 : ∀ {x1 : Int32} {m : zm}, R2 x1 m → zq_V (zk_g g) ("RiichiTable", prog_1_method_28_code, 3, (some .boolean), false, zq_rm 86 0 0) 0 0 2 [some (.ref 0), some (.int x1), none] [] (zm_hp m) (zm_QI K)) {x1 : Int32} {t0 : Int32} {u1 : Nat} {m : zm} (hu1 : zm_pl u1) (hJ : j_Table_offerClaims_L52  R2 K x1 t0 u1 m) : zq_V (zk_g g) ("RiichiTable", prog_1_method_28_code, 3, (some .boolean), false, zq_rm 86 0 0) 0 0 52 [some (.ref 0), some (.int x1), none] [.int t0, .ref u1] (zm_hp m) (zm_QI K) := by
  unfold j_Table_offerClaims_L52 at hJ
  refine zr_putI fl_Table_172 d_Table_offerClaims_52 hu1.s rfl rfl (fun m10 hm10 => ?_)
  have hJ := hJ m10 hm10
  refine zr_iinc (d' := 1) d_Table_offerClaims_55 zk_i1 rfl (Nat.le_of_ble_eq_true rfl) (fun y11 hy11 => ?_)
  have hJ := hJ y11 hy11
  refine zr_L (L' := [some (.ref 0), some (.int y11), none]) rfl ?_
  refine zq_goto (tgt := 2) d_Table_offerClaims_58 (by decide) ?_
  refine zr_less (L' := [some (.ref 0), some (.int y11), none]) ⟨rfl, ⟨rfl, trivial⟩⟩ ?_
  exact hR2  hJ
set_option maxHeartbeats 400000 in
theorem s_Table_offerClaims_L51 {g : zk_T} {R2 : Int32 → zm → Prop} {K : Int32 → zm → Prop} (hR2 : ∀ {x1 : Int32} {m : zm}, R2 x1 m → zq_V (zk_g g) ("RiichiTable", prog_1_method_28_code, 3, (some .boolean), false, zq_rm 86 0 0) 0 0 2 [some (.ref 0), some (.int x1), none] [] (zm_hp m) (zm_QI K)) {x1 : Int32} {t0 : Int32} {t1 : Int32} {u2 : Nat} {m : zm} (hu2 : zm_pl u2) (hJ : j_Table_offerClaims_L51  R2 K x1 t0 t1 u2 m) : zq_V (zk_g g) ("RiichiTable", prog_1_method_28_code, 3, (some .boolean), false, zq_rm 86 0 0) 0 0 51 [some (.ref 0), some (.int x1), none] [.int t0, .int t1, .ref u2] (zm_hp m) (zm_QI K) := by
  unfold j_Table_offerClaims_L51 at hJ
  refine zq_ior d_Table_offerClaims_51 ?_
  refine zr_less (L' := [some (.ref 0), some (.int x1), none]) ⟨rfl, ⟨rfl, trivial⟩⟩ ?_
  exact s_Table_offerClaims_L52  hR2 hu2 hJ
set_option maxHeartbeats 400000 in
theorem s_Table_offerClaims_L2 {g : zk_T} {K : Int32 → zm → Prop} : ∀ (n : Nat) {x1 : Int32} {m : zm}, j_Table_offerClaims_L2   K n x1 m → zq_V (zk_g g) ("RiichiTable", prog_1_method_28_code, 3, (some .boolean), false, zq_rm 86 0 0) 0 0 2 [some (.ref 0), some (.int x1), none] [] (zm_hp m) (zm_QI K) := by
  intro n
  induction n with
  | zero =>
    intro x1 m hJ
    exact False.elim hJ
  | succ n ih =>
    intro x1 m hJ
    rw [j_Table_offerClaims_L2] at hJ
    refine zq_iload_n d_Table_offerClaims_2 rfl rfl ?_
    refine zq_iconst (v := 4) d_Table_offerClaims_3 zk_i4 ?_
    refine zq_icmp_ge (tgt := 61) d_Table_offerClaims_4 (by decide) (fun c => ?_) (fun c => ?_)
    · have hJ := hJ.1 c
      refine zq_aload_n d_Table_offerClaims_61 rfl rfl ?_
      refine zr_cvI (q := 0) (as := []) (st := []) d_Table_offerClaims_62 cc_Table_185 cv_Table_isAnswerMissing zs_Table (s_Table_isAnswerMissing  hJ) rfl ⟨Nat.le_of_ble_eq_true rfl, Nat.le_of_ble_eq_true rfl⟩ (Nat.le_of_ble_eq_true rfl) ⟨Nat.le_refl _, Nat.le_refl _⟩ rfl (fun r2 m1 hJ => ?_)
      exact zq_iret d_Table_offerClaims_65 rfl hJ.1.nar (Nat.le_refl _) (Nat.le_refl _) ⟨_, _, rfl, rfl, hJ.2⟩
    · have hJ := hJ.2 c
      refine zq_aload_n d_Table_offerClaims_7 rfl rfl ?_
      refine zm_getR fg_Table_11 d_Table_offerClaims_8 zs_Table rfl ?_
      refine zq_iload_n d_Table_offerClaims_11 rfl rfl ?_
      obtain ⟨hb3, hJ⟩ := hJ
      refine zm_pld d_Table_offerClaims_12 hb3 ?_
      refine zr_topr (fun y4 hy4 => ?_)
      have hJ := hJ y4 hy4
      refine zr_astore_n (L' := [some (.ref 0), some (.int x1), some (.ref y4)]) d_Table_offerClaims_13 rfl (Nat.le_of_ble_eq_true rfl) rfl ?_
      refine zq_aload_n d_Table_offerClaims_14 rfl rfl ?_
      refine zq_iconst (v := 0) d_Table_offerClaims_15 zk_i0 ?_
      refine zr_putI fl_Table_179 d_Table_offerClaims_16 (hy4.symm ▸ (zm_pl_of hb3) : zm_pl y4).s rfl rfl (fun m5 hm5 => ?_)
      have hJ := hJ m5 hm5
      refine zq_aload_n d_Table_offerClaims_19 rfl rfl ?_
      refine zq_iload_n d_Table_offerClaims_20 rfl rfl ?_
      refine zq_aload_n d_Table_offerClaims_21 rfl rfl ?_
      refine zm_getI fg_Table_71 d_Table_offerClaims_22 zs_Table rfl ?_
      refine zq_icmp_ne (tgt := 32) d_Table_offerClaims_25 (by decide) (fun c => ?_) (fun c => ?_)
      · have hJ := hJ.1 c
        refine zq_aload_n d_Table_offerClaims_32 rfl rfl ?_
        refine zq_iload_n d_Table_offerClaims_33 rfl rfl ?_
        refine zr_cvI (q := 0) (as := [.int x1]) (st := [.ref y4]) d_Table_offerClaims_34 cc_Table_226 cv_Table_findTakes zs_Table (s_Table_findTakes  hJ) rfl ⟨Nat.le_of_ble_eq_true rfl, Nat.le_of_ble_eq_true rfl⟩ (Nat.le_of_ble_eq_true rfl) ⟨Nat.le_refl _, Nat.le_refl _⟩ rfl (fun r7 m6 hJ => ?_)
        refine zq_aload_n d_Table_offerClaims_37 rfl rfl ?_
        refine zq_iload_n d_Table_offerClaims_38 rfl rfl ?_
        refine zr_cvI (q := 0) (as := [.int x1]) (st := [.int r7, .ref y4]) d_Table_offerClaims_39 cc_Table_229 cv_Table_mayWin zs_Table (s_Table_mayWin  hJ) rfl ⟨Nat.le_of_ble_eq_true rfl, Nat.le_of_ble_eq_true rfl⟩ (Nat.le_of_ble_eq_true rfl) ⟨Nat.le_refl _, Nat.le_refl _⟩ rfl (fun r9 m8 hJ => ?_)
        refine zq_if_eq (tgt := 50) d_Table_offerClaims_42 (by decide) (fun c => ?_) (fun c => ?_)
        · have hJ := hJ.1 c
          refine zq_iconst (v := 0) d_Table_offerClaims_50 zk_i0 ?_
          refine zr_less (L' := [some (.ref 0), some (.int x1), none]) ⟨rfl, ⟨rfl, trivial⟩⟩ ?_
          exact s_Table_offerClaims_L51  ih (hy4.symm ▸ (zm_pl_of hb3) : zm_pl y4) hJ
        · have hJ := hJ.2 c
          refine zq_bipush (v := 16) d_Table_offerClaims_45 zk_b16 ?_
          refine zq_goto (tgt := 51) d_Table_offerClaims_47 (by decide) ?_
          refine zr_less (L' := [some (.ref 0), some (.int x1), none]) ⟨rfl, ⟨rfl, trivial⟩⟩ ?_
          exact s_Table_offerClaims_L51  ih (hy4.symm ▸ (zm_pl_of hb3) : zm_pl y4) hJ
      · have hJ := hJ.2 c
        refine zq_iconst (v := 0) d_Table_offerClaims_28 zk_i0 ?_
        refine zq_goto (tgt := 52) d_Table_offerClaims_29 (by decide) ?_
        refine zr_less (L' := [some (.ref 0), some (.int x1), none]) ⟨rfl, ⟨rfl, trivial⟩⟩ ?_
        exact s_Table_offerClaims_L52  ih (hy4.symm ▸ (zm_pl_of hb3) : zm_pl y4) hJ
set_option maxHeartbeats 400000 in
theorem s_Table_offerClaims {g : zk_T} {K : Int32 → zm → Prop} {m : zm} (hJ : j_Table_offerClaims  m K) : zq_Mt (zk_g g) y_Table_offerClaims 86 0 0 [.ref 0] (zm_hp m) (zm_QI K) := by
  unfold j_Table_offerClaims at hJ
  refine zq_meth (ini := false) rfl (fun h => by cases h) (Nat.le_of_ble_eq_true rfl) ?_
  refine zr_L (F := ("RiichiTable", prog_1_method_28_code, 3, (some .boolean), false, zq_rm 86 0 0)) (L' := [some (.ref 0), none, none]) rfl ?_
  refine zq_iconst (v := 0) d_Table_offerClaims_0 zk_i0 ?_
  refine zr_istore_n (L' := [some (.ref 0), some (.int 0), none]) d_Table_offerClaims_1 rfl (Nat.le_of_ble_eq_true rfl) rfl ?_
  refine zr_less (L' := [some (.ref 0), some (.int 0), none]) ⟨rfl, ⟨rfl, trivial⟩⟩ ?_
  obtain ⟨n2, hJ⟩ := hJ
  exact s_Table_offerClaims_L2   n2  hJ
set_option maxHeartbeats 400000 in
theorem s_Table_noteCall_L7 {g : zk_T} {K : zm → Prop} : ∀ (n : Nat) {x1 : Int32} {m : zm}, j_Table_noteCall_L7   K n x1 m → zq_V (zk_g g) ("RiichiTable", prog_1_method_39_code, 2, none, false, zq_rm 0 0 0) 0 0 7 [some (.ref 0), some (.int x1)] [] (zm_hp m) (zm_QV K) := by
  intro n
  induction n with
  | zero =>
    intro x1 m hJ
    exact False.elim hJ
  | succ n ih =>
    intro x1 m hJ
    rw [j_Table_noteCall_L7] at hJ
    refine zq_iload_n d_Table_noteCall_7 rfl rfl ?_
    refine zq_iconst (v := 4) d_Table_noteCall_8 zk_i4 ?_
    refine zq_icmp_ge (tgt := 28) d_Table_noteCall_9 (by decide) (fun c => ?_) (fun c => ?_)
    · have hJ := hJ.1 c
      exact zq_vret d_Table_noteCall_28 rfl (Nat.le_refl _) (Nat.le_refl _) ⟨_, rfl, rfl, hJ⟩
    · have hJ := hJ.2 c
      refine zq_aload_n d_Table_noteCall_12 rfl rfl ?_
      refine zm_getR fg_Table_11 d_Table_noteCall_13 zs_Table rfl ?_
      refine zq_iload_n d_Table_noteCall_16 rfl rfl ?_
      obtain ⟨hb2, hJ⟩ := hJ
      refine zm_pld d_Table_noteCall_17 hb2 ?_
      refine zq_iconst (v := 0) d_Table_noteCall_18 zk_i0 ?_
      refine zr_putZ fl_Table_87 d_Table_noteCall_19 (zm_pl_of hb2).s rfl rfl (Or.inl rfl) (fun m3 hm3 => ?_)
      have hJ := hJ m3 hm3
      refine zr_iinc (d' := 1) d_Table_noteCall_22 zk_i1 rfl (Nat.le_of_ble_eq_true rfl) (fun y4 hy4 => ?_)
      have hJ := hJ y4 hy4
      refine zr_L (L' := [some (.ref 0), some (.int y4)]) rfl ?_
      refine zq_goto (tgt := 7) d_Table_noteCall_25 (by decide) ?_
      refine zr_less (L' := [some (.ref 0), some (.int y4)]) ⟨rfl, ⟨rfl, trivial⟩⟩ ?_
      exact ih  hJ
set_option maxHeartbeats 400000 in
theorem s_Table_noteCall {g : zk_T} {K : zm → Prop} {m : zm} (hJ : j_Table_noteCall  m K) : zq_Mt (zk_g g) y_Table_noteCall 0 0 0 [.ref 0] (zm_hp m) (zm_QV K) := by
  unfold j_Table_noteCall at hJ
  refine zq_meth (ini := false) rfl (fun h => by cases h) (Nat.le_of_ble_eq_true rfl) ?_
  refine zr_L (F := ("RiichiTable", prog_1_method_39_code, 2, none, false, zq_rm 0 0 0)) (L' := [some (.ref 0), none]) rfl ?_
  refine zq_aload_n d_Table_noteCall_0 rfl rfl ?_
  refine zq_iconst (v := 1) d_Table_noteCall_1 zk_i1 ?_
  refine zr_putZ fl_Table_60 d_Table_noteCall_2 zs_Table rfl rfl (Or.inr rfl) (fun m1 hm1 => ?_)
  have hJ := hJ m1 hm1
  refine zq_iconst (v := 0) d_Table_noteCall_5 zk_i0 ?_
  refine zr_istore_n (L' := [some (.ref 0), some (.int 0)]) d_Table_noteCall_6 rfl (Nat.le_of_ble_eq_true rfl) rfl ?_
  refine zr_less (L' := [some (.ref 0), some (.int 0)]) ⟨rfl, ⟨rfl, trivial⟩⟩ ?_
  obtain ⟨n7, hJ⟩ := hJ
  exact s_Table_noteCall_L7   n7  hJ
set_option maxHeartbeats 400000 in
theorem s_Table_completeQuad {g : zk_T} {K : zm → Prop} {m : zm} (hJ : j_Table_completeQuad  m K) : zq_Mt (zk_g g) y_Table_completeQuad 2 0 0 [.ref 0] (zm_hp m) (zm_QV K) := by
  unfold j_Table_completeQuad at hJ
  refine zq_meth (ini := false) rfl (fun h => by cases h) (Nat.le_of_ble_eq_true rfl) ?_
  refine zr_L (F := ("RiichiTable", prog_1_method_41_code, 1, none, false, zq_rm 2 0 0)) (L' := [some (.ref 0)]) rfl ?_
  refine zq_aload_n d_Table_completeQuad_0 rfl rfl ?_
  refine zr_cvV (q := 0) (as := []) (st := []) d_Table_completeQuad_1 cc_Table_269 cv_Table_noteCall zs_Table (s_Table_noteCall  hJ) rfl ⟨Nat.le_of_ble_eq_true rfl, Nat.le_of_ble_eq_true rfl⟩ (Nat.le_of_ble_eq_true rfl) ⟨Nat.le_refl _, Nat.le_refl _⟩ rfl (fun m1 hJ => ?_)
  refine zq_aload_n d_Table_completeQuad_4 rfl rfl ?_
  refine zq_aload_n d_Table_completeQuad_5 rfl rfl ?_
  refine zm_getR fg_Table_34 d_Table_completeQuad_6 zs_Table rfl ?_
  refine zr_cvI (q := 11) (as := []) (st := [.ref 0]) d_Table_completeQuad_9 cc_Table_275 cv_Wall_drawReplacement zs_Wall (s_Wall_drawReplacement  hJ) rfl ⟨Nat.le_of_ble_eq_true rfl, Nat.le_of_ble_eq_true rfl⟩ (Nat.le_of_ble_eq_true rfl) ⟨Nat.le_refl _, Nat.le_refl _⟩ rfl (fun r3 m2 hJ => ?_)
  refine zr_cvV (q := 0) (as := [.int r3]) (st := []) d_Table_completeQuad_12 cc_Table_278 cv_Table_giveDrawn zs_Table (s_Table_giveDrawn  hJ) rfl ⟨Nat.le_of_ble_eq_true rfl, Nat.le_of_ble_eq_true rfl⟩ (Nat.le_of_ble_eq_true rfl) ⟨Nat.le_refl _, Nat.le_refl _⟩ rfl (fun m4 hJ => ?_)
  refine zq_aload_n d_Table_completeQuad_15 rfl rfl ?_
  refine zq_iconst (v := 1) d_Table_completeQuad_16 zk_i1 ?_
  refine zr_putZ fl_Table_281 d_Table_completeQuad_17 zs_Table rfl rfl (Or.inr rfl) (fun m5 hm5 => ?_)
  have hJ := hJ m5 hm5
  exact zq_vret d_Table_completeQuad_20 rfl (Nat.le_refl _) (Nat.le_refl _) ⟨_, rfl, rfl, hJ⟩
set_option maxHeartbeats 400000 in
theorem s_Table_completeAddedQuad {g : zk_T} {K : zm → Prop} {m : zm} (hJ : j_Table_completeAddedQuad  m K) : zq_Mt (zk_g g) y_Table_completeAddedQuad 3 0 0 [.ref 0] (zm_hp m) (zm_QV K) := by
  unfold j_Table_completeAddedQuad at hJ
  refine zq_meth (ini := false) rfl (fun h => by cases h) (Nat.le_of_ble_eq_true rfl) ?_
  refine zr_L (F := ("RiichiTable", prog_1_method_40_code, 1, none, false, zq_rm 3 0 0)) (L' := [some (.ref 0)]) rfl ?_
  refine zq_aload_n d_Table_completeAddedQuad_0 rfl rfl ?_
  refine zm_getR fg_Table_11 d_Table_completeAddedQuad_1 zs_Table rfl ?_
  refine zq_aload_n d_Table_completeAddedQuad_4 rfl rfl ?_
  refine zm_getI fg_Table_71 d_Table_completeAddedQuad_5 zs_Table rfl ?_
  obtain ⟨hb1, hJ⟩ := hJ
  refine zm_pld d_Table_completeAddedQuad_8 hb1 ?_
  refine zq_aload_n d_Table_completeAddedQuad_9 rfl rfl ?_
  refine zm_getI fg_Table_26 d_Table_completeAddedQuad_10 zs_Table rfl ?_
  refine zr_cvV (q := (13 + 5 * (Int32.toNatClampNeg (m.1 0 8)))) (as := [.int (m.1 0 9)]) (st := []) d_Table_completeAddedQuad_13 cc_Table_272 cv_Player_raiseTriplet (zm_pl_of hb1).s (s_Player_raiseTriplet (zm_pl_of hb1) hJ) rfl ⟨Nat.le_of_ble_eq_true rfl, Nat.le_of_ble_eq_true rfl⟩ (Nat.le_of_ble_eq_true rfl) ⟨Nat.le_refl _, Nat.le_refl _⟩ rfl (fun m2 hJ => ?_)
  refine zq_aload_n d_Table_completeAddedQuad_16 rfl rfl ?_
  refine zr_cvV (q := 0) (as := []) (st := []) d_Table_completeAddedQuad_17 cc_Table_114 cv_Table_completeQuad zs_Table (s_Table_completeQuad  hJ) rfl ⟨Nat.le_of_ble_eq_true rfl, Nat.le_of_ble_eq_true rfl⟩ (Nat.le_of_ble_eq_true rfl) ⟨Nat.le_refl _, Nat.le_refl _⟩ rfl (fun m3 hJ => ?_)
  exact zq_vret d_Table_completeAddedQuad_20 rfl (Nat.le_refl _) (Nat.le_refl _) ⟨_, rfl, rfl, hJ⟩
set_option maxHeartbeats 400000 in
theorem s_Table_findAnswer_L2 {g : zk_T} {a1 : Int32} {K : Int32 → zm → Prop} : ∀ (n : Nat) {x2 : Int32} {m : zm}, j_Table_findAnswer_L2 a1  K n x2 m → zq_V (zk_g g) ("RiichiTable", prog_1_method_35_code, 3, (some .int), false, zq_rm 0 0 0) 0 0 2 [some (.ref 0), some (.int a1), some (.int x2)] [] (zm_hp m) (zm_QI K) := by
  intro n
  induction n with
  | zero =>
    intro x2 m hJ
    exact False.elim hJ
  | succ n ih =>
    intro x2 m hJ
    rw [j_Table_findAnswer_L2] at hJ
    refine zq_iload_n d_Table_findAnswer_2 rfl rfl ?_
    refine zq_iconst (v := 4) d_Table_findAnswer_3 zk_i4 ?_
    refine zq_icmp_ge (tgt := 28) d_Table_findAnswer_4 (by decide) (fun c => ?_) (fun c => ?_)
    · have hJ := hJ.1 c
      refine zq_iconst (v := (-1)) d_Table_findAnswer_28 zk_im1 ?_
      exact zq_iret d_Table_findAnswer_29 rfl rfl (Nat.le_refl _) (Nat.le_refl _) ⟨_, _, rfl, rfl, hJ⟩
    · have hJ := hJ.2 c
      refine zq_aload_n d_Table_findAnswer_7 rfl rfl ?_
      refine zm_getR fg_Table_11 d_Table_findAnswer_8 zs_Table rfl ?_
      refine zq_iload_n d_Table_findAnswer_11 rfl rfl ?_
      obtain ⟨hb1, hJ⟩ := hJ
      refine zm_pld d_Table_findAnswer_12 hb1 ?_
      refine zm_getI fg_Table_179 d_Table_findAnswer_13 (zm_pl_of hb1).s rfl ?_
      refine zq_iload_n d_Table_findAnswer_16 rfl rfl ?_
      refine zq_icmp_ne (tgt := 22) d_Table_findAnswer_17 (by decide) (fun c => ?_) (fun c => ?_)
      · have hJ := hJ.1 c
        refine zr_iinc (d' := 1) d_Table_findAnswer_22 zk_i1 rfl (Nat.le_of_ble_eq_true rfl) (fun y2 hy2 => ?_)
        have hJ := hJ y2 hy2
        refine zr_L (L' := [some (.ref 0), some (.int a1), some (.int y2)]) rfl ?_
        refine zq_goto (tgt := 2) d_Table_findAnswer_25 (by decide) ?_
        refine zr_less (L' := [some (.ref 0), some (.int a1), some (.int y2)]) ⟨rfl, ⟨rfl, ⟨rfl, trivial⟩⟩⟩ ?_
        exact ih  hJ
      · have hJ := hJ.2 c
        refine zq_iload_n d_Table_findAnswer_20 rfl rfl ?_
        exact zq_iret d_Table_findAnswer_21 rfl rfl (Nat.le_refl _) (Nat.le_refl _) ⟨_, _, rfl, rfl, hJ⟩
set_option maxHeartbeats 400000 in
theorem s_Table_findAnswer {g : zk_T} {a1 : Int32} {K : Int32 → zm → Prop} {m : zm} (hJ : j_Table_findAnswer a1 m K) : zq_Mt (zk_g g) y_Table_findAnswer 0 0 0 [.ref 0, .int a1] (zm_hp m) (zm_QI K) := by
  unfold j_Table_findAnswer at hJ
  refine zq_meth (ini := false) rfl (fun h => by cases h) (Nat.le_of_ble_eq_true rfl) ?_
  refine zr_L (F := ("RiichiTable", prog_1_method_35_code, 3, (some .int), false, zq_rm 0 0 0)) (L' := [some (.ref 0), some (.int a1), none]) rfl ?_
  refine zq_iconst (v := 0) d_Table_findAnswer_0 zk_i0 ?_
  refine zr_istore_n (L' := [some (.ref 0), some (.int a1), some (.int 0)]) d_Table_findAnswer_1 rfl (Nat.le_of_ble_eq_true rfl) rfl ?_
  refine zr_less (L' := [some (.ref 0), some (.int a1), some (.int 0)]) ⟨rfl, ⟨rfl, ⟨rfl, trivial⟩⟩⟩ ?_
  obtain ⟨n2, hJ⟩ := hJ
  exact s_Table_findAnswer_L2   n2  hJ
set_option maxHeartbeats 400000 in
theorem s_Table_takeSticks {g : zk_T} {K : Int32 → zm → Prop} {m : zm} (hJ : j_Table_takeSticks  m K) : zq_Mt (zk_g g) y_Table_takeSticks 0 0 0 [.ref 0] (zm_hp m) (zm_QI K) := by
  unfold j_Table_takeSticks at hJ
  refine zq_meth (ini := false) rfl (fun h => by cases h) (Nat.le_of_ble_eq_true rfl) ?_
  refine zr_L (F := ("RiichiTable", prog_1_method_49_code, 2, (some .int), false, zq_rm 0 0 0)) (L' := [some (.ref 0), none]) rfl ?_
  refine zq_sipush (v := 1000) d_Table_takeSticks_0 zk_s1000 ?_
  refine zq_aload_n d_Table_takeSticks_3 rfl rfl ?_
  refine zm_getI fg_Table_210 d_Table_takeSticks_4 zs_Table rfl ?_
  refine zq_imul d_Table_takeSticks_7 ?_
  refine zr_topi (fun y1 hy1 => ?_)
  have hJ := hJ y1 hy1
  refine zr_istore_n (L' := [some (.ref 0), some (.int y1)]) d_Table_takeSticks_8 rfl (Nat.le_of_ble_eq_true rfl) rfl ?_
  refine zq_aload_n d_Table_takeSticks_9 rfl rfl ?_
  refine zq_iconst (v := 0) d_Table_takeSticks_10 zk_i0 ?_
  refine zr_putI fl_Table_210 d_Table_takeSticks_11 zs_Table rfl rfl (fun m2 hm2 => ?_)
  have hJ := hJ m2 hm2
  refine zq_iload_n d_Table_takeSticks_14 rfl rfl ?_
  exact zq_iret d_Table_takeSticks_15 rfl rfl (Nat.le_refl _) (Nat.le_refl _) ⟨_, _, rfl, rfl, hJ⟩
set_option maxHeartbeats 400000 in
theorem s_Table_finish_L32 {g : zk_T} {R4 : Int32 → Int32 → zm → Prop} {K : zm → Prop} (hR4 : ∀ {x1 : Int32} {x2 : Int32} {m : zm}, R4 x1 x2 m → zq_V (zk_g g) ("RiichiTable", prog_1_method_52_code, 3, none, false, zq_rm 1 0 0) 0 0 4 [some (.ref 0), some (.int x1), some (.int x2)] [] (zm_hp m) (zm_QV K)) {x1 : Int32} {x2 : Int32} {m : zm} (hJ : j_Table_finish_L32  R4 K x1 x2 m) : zq_V (zk_g g) ("RiichiTable", prog_1_method_52_code, 3, none, false, zq_rm 1 0 0) 0 0 32 [some (.ref 0), some (.int x1), some (.int x2)] [] (zm_hp m) (zm_QV K) := by
  unfold j_Table_finish_L32 at hJ
  refine zr_iinc (d' := 1) d_Table_finish_32 zk_i1 rfl (Nat.le_of_ble_eq_true rfl) (fun y8 hy8 => ?_)
  have hJ := hJ y8 hy8
  refine zr_L (L' := [some (.ref 0), some (.int x1), some (.int y8)]) rfl ?_
  refine zq_goto (tgt := 4) d_Table_finish_35 (by decide) ?_
  refine zr_less (L' := [some (.ref 0), some (.int x1), some (.int y8)]) ⟨rfl, ⟨rfl, ⟨rfl, trivial⟩⟩⟩ ?_
  exact hR4  hJ
set_option maxHeartbeats 400000 in
theorem s_Table_finish_L4 {g : zk_T} {K : zm → Prop} : ∀ (n : Nat) {x1 : Int32} {x2 : Int32} {m : zm}, j_Table_finish_L4   K n x1 x2 m → zq_V (zk_g g) ("RiichiTable", prog_1_method_52_code, 3, none, false, zq_rm 1 0 0) 0 0 4 [some (.ref 0), some (.int x1), some (.int x2)] [] (zm_hp m) (zm_QV K) := by
  intro n
  induction n with
  | zero =>
    intro x1 x2 m hJ
    exact False.elim hJ
  | succ n ih =>
    intro x1 x2 m hJ
    rw [j_Table_finish_L4] at hJ
    refine zq_iload_n d_Table_finish_4 rfl rfl ?_
    refine zq_iconst (v := 4) d_Table_finish_5 zk_i4 ?_
    refine zq_icmp_ge (tgt := 38) d_Table_finish_6 (by decide) (fun c => ?_) (fun c => ?_)
    · have hJ := hJ.1 c
      refine zq_aload_n d_Table_finish_38 rfl rfl ?_
      refine zm_getR fg_Table_11 d_Table_finish_39 zs_Table rfl ?_
      refine zq_iload_n d_Table_finish_42 rfl rfl ?_
      obtain ⟨hb1, hJ⟩ := hJ
      refine zm_pld d_Table_finish_43 hb1 ?_
      refine zq_dup d_Table_finish_44 rfl ?_
      refine zm_getI fg_Table_156 d_Table_finish_45 (zm_pl_of hb1).s rfl ?_
      refine zq_aload_n d_Table_finish_48 rfl rfl ?_
      refine zr_cvI (q := 0) (as := []) (st := [.int (m.1 (13 + 5 * (Int32.toNatClampNeg x1)) 9), .ref (13 + 5 * (Int32.toNatClampNeg x1))]) d_Table_finish_49 cc_Table_146 cv_Table_takeSticks zs_Table (s_Table_takeSticks  hJ) rfl ⟨Nat.le_of_ble_eq_true rfl, Nat.le_of_ble_eq_true rfl⟩ (Nat.le_of_ble_eq_true rfl) ⟨Nat.le_refl _, Nat.le_refl _⟩ rfl (fun r3 m2 hJ => ?_)
      refine zq_iadd d_Table_finish_52 ?_
      refine zr_putI fl_Table_156 d_Table_finish_53 (zm_pl_of hb1).s rfl rfl (fun m4 hm4 => ?_)
      have hJ := hJ m4 hm4
      refine zq_aload_n d_Table_finish_56 rfl rfl ?_
      refine zq_iconst (v := 4) d_Table_finish_57 zk_i4 ?_
      refine zr_putI fl_Table_22 d_Table_finish_58 zs_Table rfl rfl (fun m5 hm5 => ?_)
      have hJ := hJ m5 hm5
      exact zq_vret d_Table_finish_61 rfl (Nat.le_refl _) (Nat.le_refl _) ⟨_, rfl, rfl, hJ⟩
    · have hJ := hJ.2 c
      refine zq_aload_n d_Table_finish_9 rfl rfl ?_
      refine zm_getR fg_Table_11 d_Table_finish_10 zs_Table rfl ?_
      refine zq_iload_n d_Table_finish_13 rfl rfl ?_
      obtain ⟨hb6, hJ⟩ := hJ
      refine zm_pld d_Table_finish_14 hb6 ?_
      refine zm_getI fg_Table_156 d_Table_finish_15 (zm_pl_of hb6).s rfl ?_
      refine zq_aload_n d_Table_finish_18 rfl rfl ?_
      refine zm_getR fg_Table_11 d_Table_finish_19 zs_Table rfl ?_
      refine zq_iload_n d_Table_finish_22 rfl rfl ?_
      obtain ⟨hb7, hJ⟩ := hJ
      refine zm_pld d_Table_finish_23 hb7 ?_
      refine zm_getI fg_Table_156 d_Table_finish_24 (zm_pl_of hb7).s rfl ?_
      refine zq_icmp_le (tgt := 32) d_Table_finish_27 (by decide) (fun c => ?_) (fun c => ?_)
      · have hJ := hJ.1 c
        refine zr_less (L' := [some (.ref 0), some (.int x1), some (.int x2)]) ⟨rfl, ⟨rfl, ⟨rfl, trivial⟩⟩⟩ ?_
        exact s_Table_finish_L32  ih  hJ
      · have hJ := hJ.2 c
        refine zq_iload_n d_Table_finish_30 rfl rfl ?_
        refine zr_istore_n (L' := [some (.ref 0), some (.int x2), some (.int x2)]) d_Table_finish_31 rfl (Nat.le_of_ble_eq_true rfl) rfl ?_
        refine zr_less (L' := [some (.ref 0), some (.int x2), some (.int x2)]) ⟨rfl, ⟨rfl, ⟨rfl, trivial⟩⟩⟩ ?_
        exact s_Table_finish_L32  ih  hJ
set_option maxHeartbeats 400000 in
theorem s_Table_finish {g : zk_T} {K : zm → Prop} {m : zm} (hJ : j_Table_finish  m K) : zq_Mt (zk_g g) y_Table_finish 1 0 0 [.ref 0] (zm_hp m) (zm_QV K) := by
  unfold j_Table_finish at hJ
  refine zq_meth (ini := false) rfl (fun h => by cases h) (Nat.le_of_ble_eq_true rfl) ?_
  refine zr_L (F := ("RiichiTable", prog_1_method_52_code, 3, none, false, zq_rm 1 0 0)) (L' := [some (.ref 0), none, none]) rfl ?_
  refine zq_iconst (v := 0) d_Table_finish_0 zk_i0 ?_
  refine zr_istore_n (L' := [some (.ref 0), some (.int 0), none]) d_Table_finish_1 rfl (Nat.le_of_ble_eq_true rfl) rfl ?_
  refine zq_iconst (v := 1) d_Table_finish_2 zk_i1 ?_
  refine zr_istore_n (L' := [some (.ref 0), some (.int 0), some (.int 1)]) d_Table_finish_3 rfl (Nat.le_of_ble_eq_true rfl) rfl ?_
  refine zr_less (L' := [some (.ref 0), some (.int 0), some (.int 1)]) ⟨rfl, ⟨rfl, ⟨rfl, trivial⟩⟩⟩ ?_
  obtain ⟨n4, hJ⟩ := hJ
  exact s_Table_finish_L4   n4  hJ
set_option maxHeartbeats 400000 in
theorem s_Table_endHand_L83 {g : zk_T} {a1 : Int32} {a2 : Int32} {K : zm → Prop} {m : zm} (hJ : j_Table_endHand_L83 a1 a2  K  m) : zq_V (zk_g g) ("RiichiTable", prog_1_method_51_code, 3, none, false, zq_rm 2 0 0) 0 0 83 [some (.ref 0), some (.int a1), some (.int a2)] [] (zm_hp m) (zm_QV K) := by
  unfold j_Table_endHand_L83 at hJ
  exact zq_vret d_Table_endHand_83 rfl (Nat.le_refl _) (Nat.le_refl _) ⟨_, rfl, rfl, hJ⟩
set_option maxHeartbeats 400000 in
theorem s_Table_endHand_L19 {g : zk_T} {a1 : Int32} {a2 : Int32} {K : zm → Prop} {t0 : Int32} {m : zm} (hJ : j_Table_endHand_L19 a1 a2  K t0 m) : zq_V (zk_g g) ("RiichiTable", prog_1_method_51_code, 3, none, false, zq_rm 2 0 0) 0 0 19 [some (.ref 0), some (.int a1), some (.int a2)] [.int t0, .ref 0] (zm_hp m) (zm_QV K) := by
  unfold j_Table_endHand_L19 at hJ
  refine zr_putI fl_Table_153 d_Table_endHand_19 zs_Table rfl rfl (fun m1 hm1 => ?_)
  have hJ := hJ m1 hm1
  refine zq_aload_n d_Table_endHand_22 rfl rfl ?_
  refine zq_iconst (v := 3) d_Table_endHand_23 zk_i3 ?_
  refine zr_putI fl_Table_22 d_Table_endHand_24 zs_Table rfl rfl (fun m2 hm2 => ?_)
  have hJ := hJ m2 hm2
  refine zq_iload_n d_Table_endHand_27 rfl rfl ?_
  refine zq_if_eq (tgt := 32) d_Table_endHand_28 (by decide) (fun c => ?_) (fun c => ?_)
  · have hJ := hJ.1 c
    refine zq_aload_n d_Table_endHand_32 rfl rfl ?_
    refine zm_getI fg_Table_46 d_Table_endHand_33 zs_Table rfl ?_
    refine zq_iconst (v := 3) d_Table_endHand_36 zk_i3 ?_
    refine zq_icmp_ge (tgt := 53) d_Table_endHand_37 (by decide) (fun c => ?_) (fun c => ?_)
    · have hJ := hJ.1 c
      refine zq_aload_n d_Table_endHand_53 rfl rfl ?_
      refine zm_getI fg_Table_207 d_Table_endHand_54 zs_Table rfl ?_
      refine zq_iconst (v := 1) d_Table_endHand_57 zk_i1 ?_
      refine zq_icmp_ge (tgt := 79) d_Table_endHand_58 (by decide) (fun c => ?_) (fun c => ?_)
      · have hJ := hJ.1 c
        refine zq_aload_n d_Table_endHand_79 rfl rfl ?_
        refine zr_cvV (q := 0) (as := []) (st := []) d_Table_endHand_80 cc_Table_330 cv_Table_finish zs_Table (s_Table_finish  hJ) rfl ⟨Nat.le_of_ble_eq_true rfl, Nat.le_of_ble_eq_true rfl⟩ (Nat.le_of_ble_eq_true rfl) ⟨Nat.le_refl _, Nat.le_refl _⟩ rfl (fun m3 hJ => ?_)
        refine zr_less (L' := [some (.ref 0), some (.int a1), some (.int a2)]) ⟨rfl, ⟨rfl, ⟨rfl, trivial⟩⟩⟩ ?_
        exact s_Table_endHand_L83    hJ
      · have hJ := hJ.2 c
        refine zq_aload_n d_Table_endHand_61 rfl rfl ?_
        refine zq_iconst (v := 0) d_Table_endHand_62 zk_i0 ?_
        refine zr_putI fl_Table_46 d_Table_endHand_63 zs_Table rfl rfl (fun m4 hm4 => ?_)
        have hJ := hJ m4 hm4
        refine zq_aload_n d_Table_endHand_66 rfl rfl ?_
        refine zq_dup d_Table_endHand_67 rfl ?_
        refine zm_getI fg_Table_207 d_Table_endHand_68 zs_Table rfl ?_
        refine zq_iconst (v := 1) d_Table_endHand_71 zk_i1 ?_
        refine zq_iadd d_Table_endHand_72 ?_
        refine zr_putI fl_Table_207 d_Table_endHand_73 zs_Table rfl rfl (fun m5 hm5 => ?_)
        have hJ := hJ m5 hm5
        refine zq_goto (tgt := 83) d_Table_endHand_76 (by decide) ?_
        refine zr_less (L' := [some (.ref 0), some (.int a1), some (.int a2)]) ⟨rfl, ⟨rfl, ⟨rfl, trivial⟩⟩⟩ ?_
        exact s_Table_endHand_L83    hJ
    · have hJ := hJ.2 c
      refine zq_aload_n d_Table_endHand_40 rfl rfl ?_
      refine zq_dup d_Table_endHand_41 rfl ?_
      refine zm_getI fg_Table_46 d_Table_endHand_42 zs_Table rfl ?_
      refine zq_iconst (v := 1) d_Table_endHand_45 zk_i1 ?_
      refine zq_iadd d_Table_endHand_46 ?_
      refine zr_putI fl_Table_46 d_Table_endHand_47 zs_Table rfl rfl (fun m6 hm6 => ?_)
      have hJ := hJ m6 hm6
      refine zq_goto (tgt := 83) d_Table_endHand_50 (by decide) ?_
      refine zr_less (L' := [some (.ref 0), some (.int a1), some (.int a2)]) ⟨rfl, ⟨rfl, ⟨rfl, trivial⟩⟩⟩ ?_
      exact s_Table_endHand_L83    hJ
  · have hJ := hJ.2 c
    exact zq_vret d_Table_endHand_31 rfl (Nat.le_refl _) (Nat.le_refl _) ⟨_, rfl, rfl, hJ⟩
set_option maxHeartbeats 400000 in
theorem s_Table_endHand_L9 {g : zk_T} {a1 : Int32} {a2 : Int32} {K : zm → Prop} {m : zm} (hJ : j_Table_endHand_L9 a1 a2  K  m) : zq_V (zk_g g) ("RiichiTable", prog_1_method_51_code, 3, none, false, zq_rm 2 0 0) 0 0 9 [some (.ref 0), some (.int a1), some (.int a2)] [.ref 0] (zm_hp m) (zm_QV K) := by
  unfold j_Table_endHand_L9 at hJ
  refine zq_aload_n d_Table_endHand_9 rfl rfl ?_
  refine zm_getI fg_Table_153 d_Table_endHand_10 zs_Table rfl ?_
  refine zq_iconst (v := 1) d_Table_endHand_13 zk_i1 ?_
  refine zq_iadd d_Table_endHand_14 ?_
  refine zq_goto (tgt := 19) d_Table_endHand_15 (by decide) ?_
  refine zr_less (L' := [some (.ref 0), some (.int a1), some (.int a2)]) ⟨rfl, ⟨rfl, ⟨rfl, trivial⟩⟩⟩ ?_
  exact s_Table_endHand_L19    hJ
set_option maxHeartbeats 400000 in
theorem s_Table_endHand {g : zk_T} {a1 : Int32} {a2 : Int32} {K : zm → Prop} {m : zm} (hJ : j_Table_endHand a1 a2 m K) : zq_Mt (zk_g g) y_Table_endHand 2 0 0 [.ref 0, .int a1, .int a2] (zm_hp m) (zm_QV K) := by
  unfold j_Table_endHand at hJ
  refine zq_meth (ini := false) rfl (fun h => by cases h) (Nat.le_of_ble_eq_true rfl) ?_
  refine zr_L (F := ("RiichiTable", prog_1_method_51_code, 3, none, false, zq_rm 2 0 0)) (L' := [some (.ref 0), some (.int a1), some (.int a2)]) rfl ?_
  refine zq_aload_n d_Table_endHand_0 rfl rfl ?_
  refine zq_iload_n d_Table_endHand_1 rfl rfl ?_
  refine zq_if_ne (tgt := 9) d_Table_endHand_2 (by decide) (fun c => ?_) (fun c => ?_)
  · have hJ := hJ.1 c
    refine zr_less (L' := [some (.ref 0), some (.int a1), some (.int a2)]) ⟨rfl, ⟨rfl, ⟨rfl, trivial⟩⟩⟩ ?_
    exact s_Table_endHand_L9    hJ
  · have hJ := hJ.2 c
    refine zq_iload_n d_Table_endHand_5 rfl rfl ?_
    refine zq_if_eq (tgt := 18) d_Table_endHand_6 (by decide) (fun c => ?_) (fun c => ?_)
    · have hJ := hJ.1 c
      refine zq_iconst (v := 0) d_Table_endHand_18 zk_i0 ?_
      refine zr_less (L' := [some (.ref 0), some (.int a1), some (.int a2)]) ⟨rfl, ⟨rfl, ⟨rfl, trivial⟩⟩⟩ ?_
      exact s_Table_endHand_L19    hJ
    · have hJ := hJ.2 c
      refine zr_less (L' := [some (.ref 0), some (.int a1), some (.int a2)]) ⟨rfl, ⟨rfl, ⟨rfl, trivial⟩⟩⟩ ?_
      exact s_Table_endHand_L9    hJ
set_option maxHeartbeats 400000 in
theorem s_JInteger_bitCount {g : zk_T} {a0 : Int32} {K : Int32 → zm → Prop} {m : zm} (hJ : j_JInteger_bitCount a0 m K) : zq_Mt (zk_g g) y_JInteger_bitCount 0 0 0 [.int a0] (zm_hp m) (zm_QI K) := by
  unfold j_JInteger_bitCount at hJ
  refine zq_meth (ini := false) rfl (fun h => by cases h) (Nat.le_of_ble_eq_true rfl) ?_
  refine zr_L (F := ("java/lang/Integer", prog_10_method_49_code, 1, (some .int), false, zq_rm 0 0 0)) (L' := [some (.int a0)]) rfl ?_
  refine zq_iload_n d_JInteger_bitCount_0 rfl rfl ?_
  refine zq_iload_n d_JInteger_bitCount_1 rfl rfl ?_
  refine zq_iconst (v := 1) d_JInteger_bitCount_2 zk_i1 ?_
  refine zq_iushr d_JInteger_bitCount_3 ?_
  refine zq_ldcw (v := 1431655765) (zq_in (zq_c3 (List.mem_of_getElem? (i := 207) rfl)) rfl) d_JInteger_bitCount_4 ?_
  refine zq_iand d_JInteger_bitCount_7 ?_
  refine zq_isub d_JInteger_bitCount_8 ?_
  refine zr_topi (fun y1 hy1 => ?_)
  have hJ := hJ y1 hy1
  refine zr_istore_n (L' := [some (.int y1)]) d_JInteger_bitCount_9 rfl (Nat.le_of_ble_eq_true rfl) rfl ?_
  refine zq_iload_n d_JInteger_bitCount_10 rfl rfl ?_
  refine zq_ldcw (v := 858993459) (zq_in (zq_c3 (List.mem_of_getElem? (i := 208) rfl)) rfl) d_JInteger_bitCount_11 ?_
  refine zq_iand d_JInteger_bitCount_14 ?_
  refine zq_iload_n d_JInteger_bitCount_15 rfl rfl ?_
  refine zq_iconst (v := 2) d_JInteger_bitCount_16 zk_i2 ?_
  refine zq_iushr d_JInteger_bitCount_17 ?_
  refine zq_ldcw (v := 858993459) (zq_in (zq_c3 (List.mem_of_getElem? (i := 208) rfl)) rfl) d_JInteger_bitCount_18 ?_
  refine zq_iand d_JInteger_bitCount_21 ?_
  refine zq_iadd d_JInteger_bitCount_22 ?_
  refine zr_topi (fun y2 hy2 => ?_)
  have hJ := hJ y2 hy2
  refine zr_istore_n (L' := [some (.int y2)]) d_JInteger_bitCount_23 rfl (Nat.le_of_ble_eq_true rfl) rfl ?_
  refine zq_iload_n d_JInteger_bitCount_24 rfl rfl ?_
  refine zq_iload_n d_JInteger_bitCount_25 rfl rfl ?_
  refine zq_iconst (v := 4) d_JInteger_bitCount_26 zk_i4 ?_
  refine zq_iushr d_JInteger_bitCount_27 ?_
  refine zq_iadd d_JInteger_bitCount_28 ?_
  refine zq_ldcw (v := 252645135) (zq_in (zq_c3 (List.mem_of_getElem? (i := 209) rfl)) rfl) d_JInteger_bitCount_29 ?_
  refine zq_iand d_JInteger_bitCount_32 ?_
  refine zr_topi (fun y3 hy3 => ?_)
  have hJ := hJ y3 hy3
  refine zr_istore_n (L' := [some (.int y3)]) d_JInteger_bitCount_33 rfl (Nat.le_of_ble_eq_true rfl) rfl ?_
  refine zq_iload_n d_JInteger_bitCount_34 rfl rfl ?_
  refine zq_iload_n d_JInteger_bitCount_35 rfl rfl ?_
  refine zq_bipush (v := 8) d_JInteger_bitCount_36 zk_b8 ?_
  refine zq_iushr d_JInteger_bitCount_38 ?_
  refine zq_iadd d_JInteger_bitCount_39 ?_
  refine zr_topi (fun y4 hy4 => ?_)
  have hJ := hJ y4 hy4
  refine zr_istore_n (L' := [some (.int y4)]) d_JInteger_bitCount_40 rfl (Nat.le_of_ble_eq_true rfl) rfl ?_
  refine zq_iload_n d_JInteger_bitCount_41 rfl rfl ?_
  refine zq_iload_n d_JInteger_bitCount_42 rfl rfl ?_
  refine zq_bipush (v := 16) d_JInteger_bitCount_43 zk_b16 ?_
  refine zq_iushr d_JInteger_bitCount_45 ?_
  refine zq_iadd d_JInteger_bitCount_46 ?_
  refine zr_topi (fun y5 hy5 => ?_)
  have hJ := hJ y5 hy5
  refine zr_istore_n (L' := [some (.int y5)]) d_JInteger_bitCount_47 rfl (Nat.le_of_ble_eq_true rfl) rfl ?_
  refine zq_iload_n d_JInteger_bitCount_48 rfl rfl ?_
  refine zq_bipush (v := 63) d_JInteger_bitCount_49 zk_b63 ?_
  refine zq_iand d_JInteger_bitCount_51 ?_
  exact zq_iret d_JInteger_bitCount_52 rfl rfl (Nat.le_refl _) (Nat.le_refl _) ⟨_, _, rfl, rfl, hJ⟩
set_option maxHeartbeats 400000 in
theorem s_Table_drawOut_L29 {g : zk_T} {R4 : Int32 → Int32 → zm → Prop} {K : zm → Prop} (hR4 : ∀ {x1 : Int32} {x2 : Int32} {m : zm}, R4 x1 x2 m → zq_V (zk_g g) ("RiichiTable", prog_1_method_50_code, 5, none, false, zq_rm 4 0 0) 0 0 4 [some (.ref 0), some (.int x1), some (.int x2), none, none] [] (zm_hp m) (zm_QV K)) {x1 : Int32} {x2 : Int32} {m : zm} (hJ : j_Table_drawOut_L29  R4 K x1 x2 m) : zq_V (zk_g g) ("RiichiTable", prog_1_method_50_code, 5, none, false, zq_rm 4 0 0) 0 0 29 [some (.ref 0), some (.int x1), some (.int x2), none, none] [] (zm_hp m) (zm_QV K) := by
  unfold j_Table_drawOut_L29 at hJ
  refine zr_iinc (d' := 1) d_Table_drawOut_29 zk_i1 rfl (Nat.le_of_ble_eq_true rfl) (fun y7 hy7 => ?_)
  have hJ := hJ y7 hy7
  refine zr_L (L' := [some (.ref 0), some (.int x1), some (.int y7), none, none]) rfl ?_
  refine zq_goto (tgt := 4) d_Table_drawOut_32 (by decide) ?_
  refine zr_less (L' := [some (.ref 0), some (.int x1), some (.int y7), none, none]) ⟨rfl, ⟨rfl, ⟨rfl, trivial⟩⟩⟩ ?_
  exact hR4  hJ
set_option maxHeartbeats 400000 in
theorem s_Table_drawOut_L101 {g : zk_T} {R51 : Int32 → Int32 → Int32 → zm → Prop} {K : zm → Prop} (hR51 : ∀ {x1 : Int32} {x2 : Int32} {x3 : Int32} {m : zm}, R51 x1 x2 x3 m → zq_V (zk_g g) ("RiichiTable", prog_1_method_50_code, 5, none, false, zq_rm 4 0 0) 0 0 51 [some (.ref 0), some (.int x1), some (.int x2), some (.int x3), none] [] (zm_hp m) (zm_QV K)) {x1 : Int32} {x2 : Int32} {x3 : Int32} {t0 : Int32} {t1 : Int32} {u2 : Nat} {m : zm} (hu2 : zm_pl u2) (hJ : j_Table_drawOut_L101  R51 K x1 x2 x3 t0 t1 u2 m) : zq_V (zk_g g) ("RiichiTable", prog_1_method_50_code, 5, none, false, zq_rm 4 0 0) 0 0 101 [some (.ref 0), some (.int x1), some (.int x2), some (.int x3), none] [.int t0, .int t1, .ref u2] (zm_hp m) (zm_QV K) := by
  unfold j_Table_drawOut_L101 at hJ
  refine zq_iadd d_Table_drawOut_101 ?_
  refine zr_putI fl_Table_156 d_Table_drawOut_102 hu2.s rfl rfl (fun m9 hm9 => ?_)
  have hJ := hJ m9 hm9
  refine zr_iinc (d' := 1) d_Table_drawOut_105 zk_i1 rfl (Nat.le_of_ble_eq_true rfl) (fun y10 hy10 => ?_)
  have hJ := hJ y10 hy10
  refine zr_L (L' := [some (.ref 0), some (.int x1), some (.int x2), some (.int y10), none]) rfl ?_
  refine zq_goto (tgt := 51) d_Table_drawOut_108 (by decide) ?_
  refine zr_less (L' := [some (.ref 0), some (.int x1), some (.int x2), some (.int y10), none]) ⟨rfl, ⟨rfl, ⟨rfl, ⟨rfl, trivial⟩⟩⟩⟩ ?_
  exact hR51  hJ
set_option maxHeartbeats 400000 in
theorem s_Table_drawOut_L69 {g : zk_T} {R51 : Int32 → Int32 → Int32 → zm → Prop} {K : zm → Prop} (hR51 : ∀ {x1 : Int32} {x2 : Int32} {x3 : Int32} {m : zm}, R51 x1 x2 x3 m → zq_V (zk_g g) ("RiichiTable", prog_1_method_50_code, 5, none, false, zq_rm 4 0 0) 0 0 51 [some (.ref 0), some (.int x1), some (.int x2), some (.int x3), none] [] (zm_hp m) (zm_QV K)) {x1 : Int32} {x2 : Int32} {x3 : Int32} {t0 : Int32} {m : zm} (hJ : j_Table_drawOut_L69  R51 K x1 x2 x3 t0 m) : zq_V (zk_g g) ("RiichiTable", prog_1_method_50_code, 5, none, false, zq_rm 4 0 0) 0 0 69 [some (.ref 0), some (.int x1), some (.int x2), some (.int x3), none] [.int t0] (zm_hp m) (zm_QV K) := by
  unfold j_Table_drawOut_L69 at hJ
  refine zr_istore (L' := [some (.ref 0), some (.int x1), some (.int x2), some (.int x3), some (.int t0)]) d_Table_drawOut_69 (Nat.le_of_ble_eq_true rfl) rfl ?_
  refine zq_aload_n d_Table_drawOut_71 rfl rfl ?_
  refine zm_getR fg_Table_11 d_Table_drawOut_72 zs_Table rfl ?_
  refine zq_iload_n d_Table_drawOut_75 rfl rfl ?_
  obtain ⟨hb8, hJ⟩ := hJ
  refine zm_pld d_Table_drawOut_76 hb8 ?_
  refine zq_dup d_Table_drawOut_77 rfl ?_
  refine zm_getI fg_Table_156 d_Table_drawOut_78 (zm_pl_of hb8).s rfl ?_
  refine zq_iload d_Table_drawOut_81 rfl ?_
  refine zq_if_eq (tgt := 94) d_Table_drawOut_83 (by decide) (fun c => ?_) (fun c => ?_)
  · have hJ := hJ.1 c
    refine zq_sipush (v := (-3000)) d_Table_drawOut_94 zk_sm3000 ?_
    refine zq_iconst (v := 4) d_Table_drawOut_97 zk_i4 ?_
    refine zq_iload_n d_Table_drawOut_98 rfl rfl ?_
    refine zq_isub d_Table_drawOut_99 ?_
    obtain ⟨hz, hJ⟩ := hJ
    refine zq_idiv d_Table_drawOut_100 hz ?_
    refine zr_less (L' := [some (.ref 0), some (.int x1), some (.int x2), some (.int x3), none]) ⟨rfl, ⟨rfl, ⟨rfl, ⟨rfl, trivial⟩⟩⟩⟩ ?_
    exact s_Table_drawOut_L101  hR51 (zm_pl_of hb8) hJ
  · have hJ := hJ.2 c
    refine zq_sipush (v := 3000) d_Table_drawOut_86 zk_s3000 ?_
    refine zq_iload_n d_Table_drawOut_89 rfl rfl ?_
    obtain ⟨hz, hJ⟩ := hJ
    refine zq_idiv d_Table_drawOut_90 hz ?_
    refine zq_goto (tgt := 101) d_Table_drawOut_91 (by decide) ?_
    refine zr_less (L' := [some (.ref 0), some (.int x1), some (.int x2), some (.int x3), none]) ⟨rfl, ⟨rfl, ⟨rfl, ⟨rfl, trivial⟩⟩⟩⟩ ?_
    exact s_Table_drawOut_L101  hR51 (zm_pl_of hb8) hJ
set_option maxHeartbeats 400000 in
theorem s_Table_drawOut_L128 {g : zk_T} {K : zm → Prop} {t0 : Int32} {m : zm} (hJ : j_Table_drawOut_L128   K t0 m) : zq_V (zk_g g) ("RiichiTable", prog_1_method_50_code, 5, none, false, zq_rm 4 0 0) 0 0 128 [some (.ref 0), none, none, none, none] [.int t0, .ref 0] (zm_hp m) (zm_QV K) := by
  unfold j_Table_drawOut_L128 at hJ
  refine zq_iconst (v := 1) d_Table_drawOut_128 zk_i1 ?_
  refine zr_cvV (q := 0) (as := [.int t0, .int 1]) (st := []) d_Table_drawOut_129 cc_Table_162 cv_Table_endHand zs_Table (s_Table_endHand  hJ) rfl ⟨Nat.le_of_ble_eq_true rfl, Nat.le_of_ble_eq_true rfl⟩ (Nat.le_of_ble_eq_true rfl) ⟨Nat.le_refl _, Nat.le_refl _⟩ rfl (fun m11 hJ => ?_)
  exact zq_vret d_Table_drawOut_132 rfl (Nat.le_refl _) (Nat.le_refl _) ⟨_, rfl, rfl, hJ⟩
set_option maxHeartbeats 400000 in
theorem s_Table_drawOut_L111 {g : zk_T} {K : zm → Prop} {x1 : Int32} {m : zm} (hJ : j_Table_drawOut_L111   K x1 m) : zq_V (zk_g g) ("RiichiTable", prog_1_method_50_code, 5, none, false, zq_rm 4 0 0) 0 0 111 [some (.ref 0), some (.int x1), none, none, none] [] (zm_hp m) (zm_QV K) := by
  unfold j_Table_drawOut_L111 at hJ
  refine zq_aload_n d_Table_drawOut_111 rfl rfl ?_
  refine zq_iload_n d_Table_drawOut_112 rfl rfl ?_
  refine zq_aload_n d_Table_drawOut_113 rfl rfl ?_
  refine zm_getI fg_Table_46 d_Table_drawOut_114 zs_Table rfl ?_
  refine zq_ishr d_Table_drawOut_117 ?_
  refine zq_iconst (v := 1) d_Table_drawOut_118 zk_i1 ?_
  refine zq_iand d_Table_drawOut_119 ?_
  refine zq_if_eq (tgt := 127) d_Table_drawOut_120 (by decide) (fun c => ?_) (fun c => ?_)
  · have hJ := hJ.1 c
    refine zq_iconst (v := 0) d_Table_drawOut_127 zk_i0 ?_
    refine zr_less (L' := [some (.ref 0), none, none, none, none]) ⟨rfl, trivial⟩ ?_
    exact s_Table_drawOut_L128    hJ
  · have hJ := hJ.2 c
    refine zq_iconst (v := 1) d_Table_drawOut_123 zk_i1 ?_
    refine zq_goto (tgt := 128) d_Table_drawOut_124 (by decide) ?_
    refine zr_less (L' := [some (.ref 0), none, none, none, none]) ⟨rfl, trivial⟩ ?_
    exact s_Table_drawOut_L128    hJ
set_option maxHeartbeats 400000 in
theorem s_Table_drawOut_L51 {g : zk_T} {K : zm → Prop} : ∀ (n : Nat) {x1 : Int32} {x2 : Int32} {x3 : Int32} {m : zm}, j_Table_drawOut_L51   K n x1 x2 x3 m → zq_V (zk_g g) ("RiichiTable", prog_1_method_50_code, 5, none, false, zq_rm 4 0 0) 0 0 51 [some (.ref 0), some (.int x1), some (.int x2), some (.int x3), none] [] (zm_hp m) (zm_QV K) := by
  intro n
  induction n with
  | zero =>
    intro x1 x2 x3 m hJ
    exact False.elim hJ
  | succ n ih =>
    intro x1 x2 x3 m hJ
    rw [j_Table_drawOut_L51] at hJ
    refine zq_iload_n d_Table_drawOut_51 rfl rfl ?_
    refine zq_iconst (v := 4) d_Table_drawOut_52 zk_i4 ?_
    refine zq_icmp_ge (tgt := 111) d_Table_drawOut_53 (by decide) (fun c => ?_) (fun c => ?_)
    · have hJ := hJ.1 c
      refine zr_less (L' := [some (.ref 0), some (.int x1), none, none, none]) ⟨rfl, ⟨rfl, trivial⟩⟩ ?_
      exact s_Table_drawOut_L111    hJ
    · have hJ := hJ.2 c
      refine zq_iload_n d_Table_drawOut_56 rfl rfl ?_
      refine zq_iload_n d_Table_drawOut_57 rfl rfl ?_
      refine zq_ishr d_Table_drawOut_58 ?_
      refine zq_iconst (v := 1) d_Table_drawOut_59 zk_i1 ?_
      refine zq_iand d_Table_drawOut_60 ?_
      refine zq_if_eq (tgt := 68) d_Table_drawOut_61 (by decide) (fun c => ?_) (fun c => ?_)
      · have hJ := hJ.1 c
        refine zq_iconst (v := 0) d_Table_drawOut_68 zk_i0 ?_
        refine zr_less (L' := [some (.ref 0), some (.int x1), some (.int x2), some (.int x3), none]) ⟨rfl, ⟨rfl, ⟨rfl, ⟨rfl, trivial⟩⟩⟩⟩ ?_
        exact s_Table_drawOut_L69  ih  hJ
      · have hJ := hJ.2 c
        refine zq_iconst (v := 1) d_Table_drawOut_64 zk_i1 ?_
        refine zq_goto (tgt := 69) d_Table_drawOut_65 (by decide) ?_
        refine zr_less (L' := [some (.ref 0), some (.int x1), some (.int x2), some (.int x3), none]) ⟨rfl, ⟨rfl, ⟨rfl, ⟨rfl, trivial⟩⟩⟩⟩ ?_
        exact s_Table_drawOut_L69  ih  hJ
set_option maxHeartbeats 400000 in
theorem s_Table_drawOut_L4 {g : zk_T} {K : zm → Prop} : ∀ (n : Nat) {x1 : Int32} {x2 : Int32} {m : zm}, j_Table_drawOut_L4   K n x1 x2 m → zq_V (zk_g g) ("RiichiTable", prog_1_method_50_code, 5, none, false, zq_rm 4 0 0) 0 0 4 [some (.ref 0), some (.int x1), some (.int x2), none, none] [] (zm_hp m) (zm_QV K) := by
  intro n
  induction n with
  | zero =>
    intro x1 x2 m hJ
    exact False.elim hJ
  | succ n ih =>
    intro x1 x2 m hJ
    rw [j_Table_drawOut_L4] at hJ
    refine zq_iload_n d_Table_drawOut_4 rfl rfl ?_
    refine zq_iconst (v := 4) d_Table_drawOut_5 zk_i4 ?_
    refine zq_icmp_ge (tgt := 35) d_Table_drawOut_6 (by decide) (fun c => ?_) (fun c => ?_)
    · have hJ := hJ.1 c
      refine zq_iload_n d_Table_drawOut_35 rfl rfl ?_
      refine zr_csI (as := [.int x1]) (st := []) d_Table_drawOut_36 cc_Table_325 cs_JInteger_bitCount (s_JInteger_bitCount  hJ) rfl ⟨Nat.le_of_ble_eq_true rfl, Nat.le_of_ble_eq_true rfl⟩ (Nat.le_of_ble_eq_true rfl) ⟨Nat.le_refl _, Nat.le_refl _⟩ rfl (fun r2 m1 hJ => ?_)
      refine zr_istore_n (L' := [some (.ref 0), some (.int x1), some (.int r2), none, none]) d_Table_drawOut_39 rfl (Nat.le_of_ble_eq_true rfl) rfl ?_
      refine zq_iload_n d_Table_drawOut_40 rfl rfl ?_
      refine zq_if_le (tgt := 111) d_Table_drawOut_41 (by decide) (fun c => ?_) (fun c => ?_)
      · have hJ := hJ.1 c
        refine zr_less (L' := [some (.ref 0), some (.int x1), none, none, none]) ⟨rfl, ⟨rfl, trivial⟩⟩ ?_
        exact s_Table_drawOut_L111    hJ
      · have hJ := hJ.2 c
        refine zq_iload_n d_Table_drawOut_44 rfl rfl ?_
        refine zq_iconst (v := 4) d_Table_drawOut_45 zk_i4 ?_
        refine zq_icmp_ge (tgt := 111) d_Table_drawOut_46 (by decide) (fun c => ?_) (fun c => ?_)
        · have hJ := hJ.1 c
          refine zr_less (L' := [some (.ref 0), some (.int x1), none, none, none]) ⟨rfl, ⟨rfl, trivial⟩⟩ ?_
          exact s_Table_drawOut_L111    hJ
        · have hJ := hJ.2 c
          refine zq_iconst (v := 0) d_Table_drawOut_49 zk_i0 ?_
          refine zr_istore_n (L' := [some (.ref 0), some (.int x1), some (.int r2), some (.int 0), none]) d_Table_drawOut_50 rfl (Nat.le_of_ble_eq_true rfl) rfl ?_
          refine zr_less (L' := [some (.ref 0), some (.int x1), some (.int r2), some (.int 0), none]) ⟨rfl, ⟨rfl, ⟨rfl, ⟨rfl, trivial⟩⟩⟩⟩ ?_
          obtain ⟨n51, hJ⟩ := hJ
          exact s_Table_drawOut_L51   n51  hJ
    · have hJ := hJ.2 c
      refine zq_aload_n d_Table_drawOut_9 rfl rfl ?_
      refine zm_getR fg_Table_11 d_Table_drawOut_10 zs_Table rfl ?_
      refine zq_iload_n d_Table_drawOut_13 rfl rfl ?_
      obtain ⟨hb3, hJ⟩ := hJ
      refine zm_pld d_Table_drawOut_14 hb3 ?_
      refine zr_cvL (q := (13 + 5 * (Int32.toNatClampNeg x2))) (as := []) (st := []) d_Table_drawOut_15 cc_Table_200 cv_Player_findWaits (zm_pl_of hb3).s (s_Player_findWaits (zm_pl_of hb3) hJ) rfl ⟨Nat.le_of_ble_eq_true rfl, Nat.le_of_ble_eq_true rfl⟩ (Nat.le_of_ble_eq_true rfl) ⟨Nat.le_refl _, Nat.le_refl _⟩ rfl (fun r5 m4 hJ => ?_)
      refine zq_lconst (v := 0) d_Table_drawOut_18 zk_l0 ?_
      refine zq_lcmp d_Table_drawOut_19 ?_
      refine zq_if_eq (tgt := 29) d_Table_drawOut_20 (by decide) (fun c => ?_) (fun c => ?_)
      · have hJ := hJ.1 c
        refine zr_less (L' := [some (.ref 0), some (.int x1), some (.int x2), none, none]) ⟨rfl, ⟨rfl, ⟨rfl, trivial⟩⟩⟩ ?_
        exact s_Table_drawOut_L29  ih  hJ
      · have hJ := hJ.2 c
        refine zq_iload_n d_Table_drawOut_23 rfl rfl ?_
        refine zq_iconst (v := 1) d_Table_drawOut_24 zk_i1 ?_
        refine zq_iload_n d_Table_drawOut_25 rfl rfl ?_
        refine zq_ishl d_Table_drawOut_26 ?_
        refine zq_ior d_Table_drawOut_27 ?_
        refine zr_topi (fun y6 hy6 => ?_)
        have hJ := hJ y6 hy6
        refine zr_istore_n (L' := [some (.ref 0), some (.int y6), some (.int x2), none, none]) d_Table_drawOut_28 rfl (Nat.le_of_ble_eq_true rfl) rfl ?_
        refine zr_less (L' := [some (.ref 0), some (.int y6), some (.int x2), none, none]) ⟨rfl, ⟨rfl, ⟨rfl, trivial⟩⟩⟩ ?_
        exact s_Table_drawOut_L29  ih  hJ
set_option maxHeartbeats 400000 in
theorem s_Table_drawOut {g : zk_T} {K : zm → Prop} {m : zm} (hJ : j_Table_drawOut  m K) : zq_Mt (zk_g g) y_Table_drawOut 4 0 0 [.ref 0] (zm_hp m) (zm_QV K) := by
  unfold j_Table_drawOut at hJ
  refine zq_meth (ini := false) rfl (fun h => by cases h) (Nat.le_of_ble_eq_true rfl) ?_
  refine zr_L (F := ("RiichiTable", prog_1_method_50_code, 5, none, false, zq_rm 4 0 0)) (L' := [some (.ref 0), none, none, none, none]) rfl ?_
  refine zq_iconst (v := 0) d_Table_drawOut_0 zk_i0 ?_
  refine zr_istore_n (L' := [some (.ref 0), some (.int 0), none, none, none]) d_Table_drawOut_1 rfl (Nat.le_of_ble_eq_true rfl) rfl ?_
  refine zq_iconst (v := 0) d_Table_drawOut_2 zk_i0 ?_
  refine zr_istore_n (L' := [some (.ref 0), some (.int 0), some (.int 0), none, none]) d_Table_drawOut_3 rfl (Nat.le_of_ble_eq_true rfl) rfl ?_
  refine zr_less (L' := [some (.ref 0), some (.int 0), some (.int 0), none, none]) ⟨rfl, ⟨rfl, ⟨rfl, trivial⟩⟩⟩ ?_
  obtain ⟨n4, hJ⟩ := hJ
  exact s_Table_drawOut_L4   n4  hJ
set_option maxHeartbeats 400000 in
theorem s_Table_layDown {g : zk_T} {a1 : Int32} {a2 : Int32} {a3 : Int32} {K : zm → Prop} {m : zm} (hJ : j_Table_layDown a1 a2 a3 m K) : zq_Mt (zk_g g) y_Table_layDown 1 0 0 [.ref 0, .int a1, .int a2, .int a3] (zm_hp m) (zm_QV K) := by
  unfold j_Table_layDown at hJ
  refine zq_meth (ini := false) rfl (fun h => by cases h) (Nat.le_of_ble_eq_true rfl) ?_
  refine zr_L (F := ("RiichiTable", prog_1_method_38_code, 4, none, false, zq_rm 1 0 0)) (L' := [some (.ref 0), some (.int a1), some (.int a2), some (.int a3)]) rfl ?_
  refine zq_aload_n d_Table_layDown_0 rfl rfl ?_
  refine zm_getR fg_Table_11 d_Table_layDown_1 zs_Table rfl ?_
  refine zq_iload_n d_Table_layDown_4 rfl rfl ?_
  obtain ⟨hb1, hJ⟩ := hJ
  refine zm_pld d_Table_layDown_5 hb1 ?_
  refine zq_iload_n d_Table_layDown_6 rfl rfl ?_
  refine zq_iload_n d_Table_layDown_7 rfl rfl ?_
  refine zr_cvV (q := (13 + 5 * (Int32.toNatClampNeg a1))) (as := [.int a2, .int a3]) (st := []) d_Table_layDown_8 cc_Table_110 cv_Player_addMeld (zm_pl_of hb1).s (s_Player_addMeld (zm_pl_of hb1) hJ) rfl ⟨Nat.le_of_ble_eq_true rfl, Nat.le_of_ble_eq_true rfl⟩ (Nat.le_of_ble_eq_true rfl) ⟨Nat.le_refl _, Nat.le_refl _⟩ rfl (fun m2 hJ => ?_)
  refine zq_aload_n d_Table_layDown_11 rfl rfl ?_
  refine zm_getR fg_Table_11 d_Table_layDown_12 zs_Table rfl ?_
  refine zq_iload_n d_Table_layDown_15 rfl rfl ?_
  obtain ⟨hb3, hJ⟩ := hJ
  refine zm_pld d_Table_layDown_16 hb3 ?_
  refine zr_cvV (q := (13 + 5 * (Int32.toNatClampNeg a1))) (as := []) (st := []) d_Table_layDown_17 cc_Table_266 cv_Player_forgetMissed (zm_pl_of hb3).s (s_Player_forgetMissed (zm_pl_of hb3) hJ) rfl ⟨Nat.le_of_ble_eq_true rfl, Nat.le_of_ble_eq_true rfl⟩ (Nat.le_of_ble_eq_true rfl) ⟨Nat.le_refl _, Nat.le_refl _⟩ rfl (fun m4 hJ => ?_)
  refine zq_aload_n d_Table_layDown_20 rfl rfl ?_
  refine zr_cvV (q := 0) (as := []) (st := []) d_Table_layDown_21 cc_Table_269 cv_Table_noteCall zs_Table (s_Table_noteCall  hJ) rfl ⟨Nat.le_of_ble_eq_true rfl, Nat.le_of_ble_eq_true rfl⟩ (Nat.le_of_ble_eq_true rfl) ⟨Nat.le_refl _, Nat.le_refl _⟩ rfl (fun m5 hJ => ?_)
  refine zq_aload_n d_Table_layDown_24 rfl rfl ?_
  refine zq_iload_n d_Table_layDown_25 rfl rfl ?_
  refine zr_putI fl_Table_71 d_Table_layDown_26 zs_Table rfl rfl (fun m6 hm6 => ?_)
  have hJ := hJ m6 hm6
  refine zq_aload_n d_Table_layDown_29 rfl rfl ?_
  refine zq_iconst (v := (-1)) d_Table_layDown_30 zk_im1 ?_
  refine zr_putI fl_Table_26 d_Table_layDown_31 zs_Table rfl rfl (fun m7 hm7 => ?_)
  have hJ := hJ m7 hm7
  refine zq_aload_n d_Table_layDown_34 rfl rfl ?_
  refine zq_iconst (v := 1) d_Table_layDown_35 zk_i1 ?_
  refine zr_putI fl_Table_22 d_Table_layDown_36 zs_Table rfl rfl (fun m8 hm8 => ?_)
  have hJ := hJ m8 hm8
  exact zq_vret d_Table_layDown_39 rfl (Nat.le_refl _) (Nat.le_refl _) ⟨_, rfl, rfl, hJ⟩
set_option maxHeartbeats 400000 in
theorem s_Table_handOver_L162 {g : zk_T} {K : zm → Prop} {m : zm} (hJ : j_Table_handOver_L162   K  m) : zq_V (zk_g g) ("RiichiTable", prog_1_method_37_code, 2, none, false, zq_rm 5 0 0) 0 0 162 [some (.ref 0), none] [] (zm_hp m) (zm_QV K) := by
  unfold j_Table_handOver_L162 at hJ
  exact zq_vret d_Table_handOver_162 rfl (Nat.le_refl _) (Nat.le_refl _) ⟨_, rfl, rfl, hJ⟩
set_option maxHeartbeats 400000 in
theorem s_Table_handOver {g : zk_T} {K : zm → Prop} {m : zm} (hJ : j_Table_handOver  m K) : zq_Mt (zk_g g) y_Table_handOver 5 0 0 [.ref 0] (zm_hp m) (zm_QV K) := by
  unfold j_Table_handOver at hJ
  refine zq_meth (ini := false) rfl (fun h => by cases h) (Nat.le_of_ble_eq_true rfl) ?_
  refine zr_L (F := ("RiichiTable", prog_1_method_37_code, 2, none, false, zq_rm 5 0 0)) (L' := [some (.ref 0), none]) rfl ?_
  refine zq_aload_n d_Table_handOver_0 rfl rfl ?_
  refine zq_iconst (v := 3) d_Table_handOver_1 zk_i3 ?_
  refine zr_cvI (q := 0) (as := [.int 3]) (st := []) d_Table_handOver_2 cc_Table_241 cv_Table_findAnswer zs_Table (s_Table_findAnswer  hJ) rfl ⟨Nat.le_of_ble_eq_true rfl, Nat.le_of_ble_eq_true rfl⟩ (Nat.le_of_ble_eq_true rfl) ⟨Nat.le_refl _, Nat.le_refl _⟩ rfl (fun r2 m1 hJ => ?_)
  refine zr_istore_n (L' := [some (.ref 0), some (.int r2)]) d_Table_handOver_5 rfl (Nat.le_of_ble_eq_true rfl) rfl ?_
  refine zq_iload_n d_Table_handOver_6 rfl rfl ?_
  refine zq_iconst (v := (-1)) d_Table_handOver_7 zk_im1 ?_
  refine zq_icmp_eq (tgt := 44) d_Table_handOver_8 (by decide) (fun c => ?_) (fun c => ?_)
  · have hJ := hJ.1 c
    refine zq_aload_n d_Table_handOver_44 rfl rfl ?_
    refine zq_iconst (v := 2) d_Table_handOver_45 zk_i2 ?_
    refine zr_cvI (q := 0) (as := [.int 2]) (st := []) d_Table_handOver_46 cc_Table_241 cv_Table_findAnswer zs_Table (s_Table_findAnswer  hJ) rfl ⟨Nat.le_of_ble_eq_true rfl, Nat.le_of_ble_eq_true rfl⟩ (Nat.le_of_ble_eq_true rfl) ⟨Nat.le_refl _, Nat.le_refl _⟩ rfl (fun r4 m3 hJ => ?_)
    refine zr_istore_n (L' := [some (.ref 0), some (.int r4)]) d_Table_handOver_49 rfl (Nat.le_of_ble_eq_true rfl) rfl ?_
    refine zq_iload_n d_Table_handOver_50 rfl rfl ?_
    refine zq_iconst (v := (-1)) d_Table_handOver_51 zk_im1 ?_
    refine zq_icmp_eq (tgt := 84) d_Table_handOver_52 (by decide) (fun c => ?_) (fun c => ?_)
    · have hJ := hJ.1 c
      refine zq_aload_n d_Table_handOver_84 rfl rfl ?_
      refine zq_iconst (v := 1) d_Table_handOver_85 zk_i1 ?_
      refine zr_cvI (q := 0) (as := [.int 1]) (st := []) d_Table_handOver_86 cc_Table_241 cv_Table_findAnswer zs_Table (s_Table_findAnswer  hJ) rfl ⟨Nat.le_of_ble_eq_true rfl, Nat.le_of_ble_eq_true rfl⟩ (Nat.le_of_ble_eq_true rfl) ⟨Nat.le_refl _, Nat.le_refl _⟩ rfl (fun r6 m5 hJ => ?_)
      refine zr_istore_n (L' := [some (.ref 0), some (.int r6)]) d_Table_handOver_89 rfl (Nat.le_of_ble_eq_true rfl) rfl ?_
      refine zq_iload_n d_Table_handOver_90 rfl rfl ?_
      refine zq_iconst (v := (-1)) d_Table_handOver_91 zk_im1 ?_
      refine zq_icmp_eq (tgt := 133) d_Table_handOver_92 (by decide) (fun c => ?_) (fun c => ?_)
      · have hJ := hJ.1 c
        refine zq_aload_n d_Table_handOver_133 rfl rfl ?_
        refine zm_getR fg_Table_34 d_Table_handOver_134 zs_Table rfl ?_
        refine zr_cvI (q := 11) (as := []) (st := []) d_Table_handOver_137 cc_Table_106 cv_Wall_countLeft zs_Wall (s_Wall_countLeft  hJ) rfl ⟨Nat.le_of_ble_eq_true rfl, Nat.le_of_ble_eq_true rfl⟩ (Nat.le_of_ble_eq_true rfl) ⟨Nat.le_refl _, Nat.le_refl _⟩ rfl (fun r8 m7 hJ => ?_)
        refine zq_if_ne (tgt := 150) d_Table_handOver_140 (by decide) (fun c => ?_) (fun c => ?_)
        · have hJ := hJ.1 c
          refine zq_aload_n d_Table_handOver_150 rfl rfl ?_
          refine zq_aload_n d_Table_handOver_151 rfl rfl ?_
          refine zm_getI fg_Table_71 d_Table_handOver_152 zs_Table rfl ?_
          refine zq_iconst (v := 1) d_Table_handOver_155 zk_i1 ?_
          refine zq_iadd d_Table_handOver_156 ?_
          refine zq_iconst (v := 4) d_Table_handOver_157 zk_i4 ?_
          refine zq_irem d_Table_handOver_158 (by decide) ?_
          refine zr_cvV (q := 0) (as := [.int (((m7.1 0 8) + 1) - ((m7.1 0 8) + 1) / 4 * 4)]) (st := []) d_Table_handOver_159 cc_Table_64 cv_Table_drawFor zs_Table (s_Table_drawFor  hJ) rfl ⟨Nat.le_of_ble_eq_true rfl, Nat.le_of_ble_eq_true rfl⟩ (Nat.le_of_ble_eq_true rfl) ⟨Nat.le_refl _, Nat.le_refl _⟩ rfl (fun m9 hJ => ?_)
          refine zr_less (L' := [some (.ref 0), none]) ⟨rfl, trivial⟩ ?_
          exact s_Table_handOver_L162    hJ
        · have hJ := hJ.2 c
          refine zq_aload_n d_Table_handOver_143 rfl rfl ?_
          refine zr_cvV (q := 0) (as := []) (st := []) d_Table_handOver_144 cc_Table_263 cv_Table_drawOut zs_Table (s_Table_drawOut  hJ) rfl ⟨Nat.le_of_ble_eq_true rfl, Nat.le_of_ble_eq_true rfl⟩ (Nat.le_of_ble_eq_true rfl) ⟨Nat.le_refl _, Nat.le_refl _⟩ rfl (fun m10 hJ => ?_)
          refine zq_goto (tgt := 162) d_Table_handOver_147 (by decide) ?_
          refine zr_less (L' := [some (.ref 0), none]) ⟨rfl, trivial⟩ ?_
          exact s_Table_handOver_L162    hJ
      · have hJ := hJ.2 c
        refine zq_aload_n d_Table_handOver_95 rfl rfl ?_
        refine zm_getR fg_Table_11 d_Table_handOver_96 zs_Table rfl ?_
        refine zq_iload_n d_Table_handOver_99 rfl rfl ?_
        obtain ⟨hb11, hJ⟩ := hJ
        refine zm_pld d_Table_handOver_100 hb11 ?_
        refine zq_aload_n d_Table_handOver_101 rfl rfl ?_
        refine zm_getR fg_Table_11 d_Table_handOver_102 zs_Table rfl ?_
        refine zq_iload_n d_Table_handOver_105 rfl rfl ?_
        obtain ⟨hb12, hJ⟩ := hJ
        refine zm_pld d_Table_handOver_106 hb12 ?_
        refine zm_getI fg_Table_182 d_Table_handOver_107 (zm_pl_of hb12).s rfl ?_
        refine zq_aload_n d_Table_handOver_110 rfl rfl ?_
        refine zm_getI fg_Table_26 d_Table_handOver_111 zs_Table rfl ?_
        refine zr_cvV (q := (13 + 5 * (Int32.toNatClampNeg r6))) (as := [.int (m5.1 (13 + 5 * (Int32.toNatClampNeg r6)) 12), .int (m5.1 0 9)]) (st := []) d_Table_handOver_114 cc_Table_260 cv_Player_giveRestOfRun (zm_pl_of hb11).s (s_Player_giveRestOfRun (zm_pl_of hb11) hJ) rfl ⟨Nat.le_of_ble_eq_true rfl, Nat.le_of_ble_eq_true rfl⟩ (Nat.le_of_ble_eq_true rfl) ⟨Nat.le_refl _, Nat.le_refl _⟩ rfl (fun m13 hJ => ?_)
        refine zq_aload_n d_Table_handOver_117 rfl rfl ?_
        refine zq_iload_n d_Table_handOver_118 rfl rfl ?_
        refine zq_aload_n d_Table_handOver_119 rfl rfl ?_
        refine zm_getR fg_Table_11 d_Table_handOver_120 zs_Table rfl ?_
        refine zq_iload_n d_Table_handOver_123 rfl rfl ?_
        obtain ⟨hb14, hJ⟩ := hJ
        refine zm_pld d_Table_handOver_124 hb14 ?_
        refine zm_getI fg_Table_182 d_Table_handOver_125 (zm_pl_of hb14).s rfl ?_
        refine zq_iconst (v := 0) d_Table_handOver_128 zk_i0 ?_
        refine zr_cvV (q := 0) (as := [.int r6, .int (m13.1 (13 + 5 * (Int32.toNatClampNeg r6)) 12), .int 0]) (st := []) d_Table_handOver_129 cc_Table_256 cv_Table_layDown zs_Table (s_Table_layDown  hJ) rfl ⟨Nat.le_of_ble_eq_true rfl, Nat.le_of_ble_eq_true rfl⟩ (Nat.le_of_ble_eq_true rfl) ⟨Nat.le_refl _, Nat.le_refl _⟩ rfl (fun m15 hJ => ?_)
        exact zq_vret d_Table_handOver_132 rfl (Nat.le_refl _) (Nat.le_refl _) ⟨_, rfl, rfl, hJ⟩
    · have hJ := hJ.2 c
      refine zq_aload_n d_Table_handOver_55 rfl rfl ?_
      refine zm_getR fg_Table_11 d_Table_handOver_56 zs_Table rfl ?_
      refine zq_iload_n d_Table_handOver_59 rfl rfl ?_
      obtain ⟨hb16, hJ⟩ := hJ
      refine zm_pld d_Table_handOver_60 hb16 ?_
      refine zm_getR fg_Table_52 d_Table_handOver_61 (zm_pl_of hb16).s rfl ?_
      refine zq_aload_n d_Table_handOver_64 rfl rfl ?_
      refine zm_getI fg_Table_26 d_Table_handOver_65 zs_Table rfl ?_
      refine zq_dup2 d_Table_handOver_68 rfl rfl ?_
      obtain ⟨hb, hJ⟩ := hJ
      refine zm_ald d_Table_handOver_69 (zm_pl.c (zm_pl_of hb16)) hb ?_
      refine zq_iconst (v := 2) d_Table_handOver_70 zk_i2 ?_
      refine zq_isub d_Table_handOver_71 ?_
      obtain ⟨hb, hJ⟩ := hJ
      refine zr_ast d_Table_handOver_72 (zm_pl.c (zm_pl_of hb16)) hb (fun m17 hm17 => ?_)
      have hJ := hJ m17 hm17
      refine zq_aload_n d_Table_handOver_73 rfl rfl ?_
      refine zq_iload_n d_Table_handOver_74 rfl rfl ?_
      refine zq_aload_n d_Table_handOver_75 rfl rfl ?_
      refine zm_getI fg_Table_26 d_Table_handOver_76 zs_Table rfl ?_
      refine zq_iconst (v := 1) d_Table_handOver_79 zk_i1 ?_
      refine zr_cvV (q := 0) (as := [.int r4, .int (m17.1 0 9), .int 1]) (st := []) d_Table_handOver_80 cc_Table_256 cv_Table_layDown zs_Table (s_Table_layDown  hJ) rfl ⟨Nat.le_of_ble_eq_true rfl, Nat.le_of_ble_eq_true rfl⟩ (Nat.le_of_ble_eq_true rfl) ⟨Nat.le_refl _, Nat.le_refl _⟩ rfl (fun m18 hJ => ?_)
      exact zq_vret d_Table_handOver_83 rfl (Nat.le_refl _) (Nat.le_refl _) ⟨_, rfl, rfl, hJ⟩
  · have hJ := hJ.2 c
    refine zq_aload_n d_Table_handOver_11 rfl rfl ?_
    refine zm_getR fg_Table_11 d_Table_handOver_12 zs_Table rfl ?_
    refine zq_iload_n d_Table_handOver_15 rfl rfl ?_
    obtain ⟨hb19, hJ⟩ := hJ
    refine zm_pld d_Table_handOver_16 hb19 ?_
    refine zm_getR fg_Table_52 d_Table_handOver_17 (zm_pl_of hb19).s rfl ?_
    refine zq_aload_n d_Table_handOver_20 rfl rfl ?_
    refine zm_getI fg_Table_26 d_Table_handOver_21 zs_Table rfl ?_
    refine zq_dup2 d_Table_handOver_24 rfl rfl ?_
    obtain ⟨hb, hJ⟩ := hJ
    refine zm_ald d_Table_handOver_25 (zm_pl.c (zm_pl_of hb19)) hb ?_
    refine zq_iconst (v := 3) d_Table_handOver_26 zk_i3 ?_
    refine zq_isub d_Table_handOver_27 ?_
    obtain ⟨hb, hJ⟩ := hJ
    refine zr_ast d_Table_handOver_28 (zm_pl.c (zm_pl_of hb19)) hb (fun m20 hm20 => ?_)
    have hJ := hJ m20 hm20
    refine zq_aload_n d_Table_handOver_29 rfl rfl ?_
    refine zq_iload_n d_Table_handOver_30 rfl rfl ?_
    refine zq_aload_n d_Table_handOver_31 rfl rfl ?_
    refine zm_getI fg_Table_26 d_Table_handOver_32 zs_Table rfl ?_
    refine zq_iconst (v := 2) d_Table_handOver_35 zk_i2 ?_
    refine zr_cvV (q := 0) (as := [.int r2, .int (m20.1 0 9), .int 2]) (st := []) d_Table_handOver_36 cc_Table_256 cv_Table_layDown zs_Table (s_Table_layDown  hJ) rfl ⟨Nat.le_of_ble_eq_true rfl, Nat.le_of_ble_eq_true rfl⟩ (Nat.le_of_ble_eq_true rfl) ⟨Nat.le_refl _, Nat.le_refl _⟩ rfl (fun m21 hJ => ?_)
    refine zq_aload_n d_Table_handOver_39 rfl rfl ?_
    refine zr_cvV (q := 0) (as := []) (st := []) d_Table_handOver_40 cc_Table_114 cv_Table_completeQuad zs_Table (s_Table_completeQuad  hJ) rfl ⟨Nat.le_of_ble_eq_true rfl, Nat.le_of_ble_eq_true rfl⟩ (Nat.le_of_ble_eq_true rfl) ⟨Nat.le_refl _, Nat.le_refl _⟩ rfl (fun m22 hJ => ?_)
    exact zq_vret d_Table_handOver_43 rfl (Nat.le_refl _) (Nat.le_refl _) ⟨_, rfl, rfl, hJ⟩
set_option maxHeartbeats 400000 in
theorem s_Table_noteMissed_L46 {g : zk_T} {R2 : Int32 → zm → Prop} {K : zm → Prop} (hR2 : ∀ {x1 : Int32} {m : zm}, R2 x1 m → zq_V (zk_g g) ("RiichiTable", prog_1_method_34_code, 2, none, false, zq_rm 3 0 0) 0 0 2 [some (.ref 0), some (.int x1)] [] (zm_hp m) (zm_QV K)) {x1 : Int32} {m : zm} (hJ : j_Table_noteMissed_L46  R2 K x1 m) : zq_V (zk_g g) ("RiichiTable", prog_1_method_34_code, 2, none, false, zq_rm 3 0 0) 0 0 46 [some (.ref 0), some (.int x1)] [] (zm_hp m) (zm_QV K) := by
  unfold j_Table_noteMissed_L46 at hJ
  refine zr_iinc (d' := 1) d_Table_noteMissed_46 zk_i1 rfl (Nat.le_of_ble_eq_true rfl) (fun y7 hy7 => ?_)
  have hJ := hJ y7 hy7
  refine zr_L (L' := [some (.ref 0), some (.int y7)]) rfl ?_
  refine zq_goto (tgt := 2) d_Table_noteMissed_49 (by decide) ?_
  refine zr_less (L' := [some (.ref 0), some (.int y7)]) ⟨rfl, ⟨rfl, trivial⟩⟩ ?_
  exact hR2  hJ
set_option maxHeartbeats 400000 in
theorem s_Table_noteMissed_L2 {g : zk_T} {K : zm → Prop} : ∀ (n : Nat) {x1 : Int32} {m : zm}, j_Table_noteMissed_L2   K n x1 m → zq_V (zk_g g) ("RiichiTable", prog_1_method_34_code, 2, none, false, zq_rm 3 0 0) 0 0 2 [some (.ref 0), some (.int x1)] [] (zm_hp m) (zm_QV K) := by
  intro n
  induction n with
  | zero =>
    intro x1 m hJ
    exact False.elim hJ
  | succ n ih =>
    intro x1 m hJ
    rw [j_Table_noteMissed_L2] at hJ
    refine zq_iload_n d_Table_noteMissed_2 rfl rfl ?_
    refine zq_iconst (v := 4) d_Table_noteMissed_3 zk_i4 ?_
    refine zq_icmp_ge (tgt := 52) d_Table_noteMissed_4 (by decide) (fun c => ?_) (fun c => ?_)
    · have hJ := hJ.1 c
      exact zq_vret d_Table_noteMissed_52 rfl (Nat.le_refl _) (Nat.le_refl _) ⟨_, rfl, rfl, hJ⟩
    · have hJ := hJ.2 c
      refine zq_aload_n d_Table_noteMissed_7 rfl rfl ?_
      refine zm_getR fg_Table_11 d_Table_noteMissed_8 zs_Table rfl ?_
      refine zq_iload_n d_Table_noteMissed_11 rfl rfl ?_
      obtain ⟨hb1, hJ⟩ := hJ
      refine zm_pld d_Table_noteMissed_12 hb1 ?_
      refine zm_getI fg_Table_179 d_Table_noteMissed_13 (zm_pl_of hb1).s rfl ?_
      refine zq_iconst (v := 4) d_Table_noteMissed_16 zk_i4 ?_
      refine zq_icmp_eq (tgt := 46) d_Table_noteMissed_17 (by decide) (fun c => ?_) (fun c => ?_)
      · have hJ := hJ.1 c
        refine zr_less (L' := [some (.ref 0), some (.int x1)]) ⟨rfl, ⟨rfl, trivial⟩⟩ ?_
        exact s_Table_noteMissed_L46  ih  hJ
      · have hJ := hJ.2 c
        refine zq_aload_n d_Table_noteMissed_20 rfl rfl ?_
        refine zm_getR fg_Table_11 d_Table_noteMissed_21 zs_Table rfl ?_
        refine zq_iload_n d_Table_noteMissed_24 rfl rfl ?_
        obtain ⟨hb2, hJ⟩ := hJ
        refine zm_pld d_Table_noteMissed_25 hb2 ?_
        refine zq_aload_n d_Table_noteMissed_26 rfl rfl ?_
        refine zm_getI fg_Table_26 d_Table_noteMissed_27 zs_Table rfl ?_
        refine zr_cvI (q := (13 + 5 * (Int32.toNatClampNeg x1))) (as := [.int (m.1 0 9)]) (st := []) d_Table_noteMissed_30 cc_Table_232 cv_Player_isWait (zm_pl_of hb2).s (s_Player_isWait (zm_pl_of hb2) hJ) rfl ⟨Nat.le_of_ble_eq_true rfl, Nat.le_of_ble_eq_true rfl⟩ (Nat.le_of_ble_eq_true rfl) ⟨Nat.le_refl _, Nat.le_refl _⟩ rfl (fun r4 m3 hJ => ?_)
        refine zq_if_eq (tgt := 46) d_Table_noteMissed_33 (by decide) (fun c => ?_) (fun c => ?_)
        · have hJ := hJ.1 c
          refine zr_less (L' := [some (.ref 0), some (.int x1)]) ⟨rfl, ⟨rfl, trivial⟩⟩ ?_
          exact s_Table_noteMissed_L46  ih  hJ
        · have hJ := hJ.2 c
          refine zq_aload_n d_Table_noteMissed_36 rfl rfl ?_
          refine zm_getR fg_Table_11 d_Table_noteMissed_37 zs_Table rfl ?_
          refine zq_iload_n d_Table_noteMissed_40 rfl rfl ?_
          obtain ⟨hb5, hJ⟩ := hJ
          refine zm_pld d_Table_noteMissed_41 hb5 ?_
          refine zq_iconst (v := 1) d_Table_noteMissed_42 zk_i1 ?_
          refine zr_putZ fl_Table_253 d_Table_noteMissed_43 (zm_pl_of hb5).s rfl rfl (Or.inr rfl) (fun m6 hm6 => ?_)
          have hJ := hJ m6 hm6
          refine zr_less (L' := [some (.ref 0), some (.int x1)]) ⟨rfl, ⟨rfl, trivial⟩⟩ ?_
          exact s_Table_noteMissed_L46  ih  hJ
set_option maxHeartbeats 400000 in
theorem s_Table_noteMissed {g : zk_T} {K : zm → Prop} {m : zm} (hJ : j_Table_noteMissed  m K) : zq_Mt (zk_g g) y_Table_noteMissed 3 0 0 [.ref 0] (zm_hp m) (zm_QV K) := by
  unfold j_Table_noteMissed at hJ
  refine zq_meth (ini := false) rfl (fun h => by cases h) (Nat.le_of_ble_eq_true rfl) ?_
  refine zr_L (F := ("RiichiTable", prog_1_method_34_code, 2, none, false, zq_rm 3 0 0)) (L' := [some (.ref 0), none]) rfl ?_
  refine zq_iconst (v := 0) d_Table_noteMissed_0 zk_i0 ?_
  refine zr_istore_n (L' := [some (.ref 0), some (.int 0)]) d_Table_noteMissed_1 rfl (Nat.le_of_ble_eq_true rfl) rfl ?_
  refine zr_less (L' := [some (.ref 0), some (.int 0)]) ⟨rfl, ⟨rfl, trivial⟩⟩ ?_
  obtain ⟨n2, hJ⟩ := hJ
  exact s_Table_noteMissed_L2   n2  hJ
set_option maxHeartbeats 400000 in
theorem s_Table_toHundreds {g : zk_T} {a0 : Int32} {K : Int32 → zm → Prop} {m : zm} (hJ : j_Table_toHundreds a0 m K) : zq_Mt (zk_g g) y_Table_toHundreds 0 0 0 [.int a0] (zm_hp m) (zm_QI K) := by
  unfold j_Table_toHundreds at hJ
  refine zq_meth (ini := false) rfl (fun h => by cases h) (Nat.le_of_ble_eq_true rfl) ?_
  refine zr_L (F := ("RiichiTable", prog_1_method_25_code, 1, (some .int), false, zq_rm 0 0 0)) (L' := [some (.int a0)]) rfl ?_
  refine zq_iload_n d_Table_toHundreds_0 rfl rfl ?_
  refine zq_bipush (v := 99) d_Table_toHundreds_1 zk_b99 ?_
  refine zq_iadd d_Table_toHundreds_3 ?_
  refine zq_bipush (v := 100) d_Table_toHundreds_4 zk_b100 ?_
  refine zq_idiv d_Table_toHundreds_6 (by decide) ?_
  refine zq_bipush (v := 100) d_Table_toHundreds_7 zk_b100 ?_
  refine zq_imul d_Table_toHundreds_9 ?_
  exact zq_iret d_Table_toHundreds_10 rfl rfl (Nat.le_refl _) (Nat.le_refl _) ⟨_, _, rfl, rfl, hJ⟩
set_option maxHeartbeats 400000 in
theorem s_Table_payForTile_L183 {g : zk_T} {R19 : Int32 → Int32 → Int32 → Int32 → zm → Prop} {K : zm → Prop} (hR19 : ∀ {x1 : Int32} {x2 : Int32} {x3 : Int32} {x4 : Int32} {m : zm}, R19 x1 x2 x3 x4 m → zq_V (zk_g g) ("RiichiTable", prog_1_method_48_code, 8, none, false, zq_rm 85 0 0) 0 0 19 [some (.ref 0), some (.int x1), some (.int x2), some (.int x3), some (.int x4), none, none, none] [] (zm_hp m) (zm_QV K)) {x1 : Int32} {x2 : Int32} {x3 : Int32} {x4 : Int32} {m : zm} (hJ : j_Table_payForTile_L183  R19 K x1 x2 x3 x4 m) : zq_V (zk_g g) ("RiichiTable", prog_1_method_48_code, 8, none, false, zq_rm 85 0 0) 0 0 183 [some (.ref 0), some (.int x1), some (.int x2), some (.int x3), some (.int x4), none, none, none] [] (zm_hp m) (zm_QV K) := by
  unfold j_Table_payForTile_L183 at hJ
  refine zr_iinc (d' := 1) d_Table_payForTile_183 zk_i1 rfl (Nat.le_of_ble_eq_true rfl) (fun y19 hy19 => ?_)
  have hJ := hJ y19 hy19
  refine zr_L (L' := [some (.ref 0), some (.int x1), some (.int x2), some (.int x3), some (.int y19), none, none, none]) rfl ?_
  refine zq_goto (tgt := 19) d_Table_payForTile_186 (by decide) ?_
  refine zr_less (L' := [some (.ref 0), some (.int x1), some (.int x2), some (.int x3), some (.int y19), none, none, none]) ⟨rfl, ⟨rfl, ⟨rfl, ⟨rfl, ⟨rfl, trivial⟩⟩⟩⟩⟩ ?_
  exact hR19  hJ
set_option maxHeartbeats 400000 in
theorem s_Table_payForTile_L178 {g : zk_T} {R19 : Int32 → Int32 → Int32 → Int32 → zm → Prop} {K : zm → Prop} (hR19 : ∀ {x1 : Int32} {x2 : Int32} {x3 : Int32} {x4 : Int32} {m : zm}, R19 x1 x2 x3 x4 m → zq_V (zk_g g) ("RiichiTable", prog_1_method_48_code, 8, none, false, zq_rm 85 0 0) 0 0 19 [some (.ref 0), some (.int x1), some (.int x2), some (.int x3), some (.int x4), none, none, none] [] (zm_hp m) (zm_QV K)) {x4 : Int32} {t0 : Int32} {m : zm} (hJ : j_Table_payForTile_L178  R19 K x4 t0 m) : zq_V (zk_g g) ("RiichiTable", prog_1_method_48_code, 8, none, false, zq_rm 85 0 0) 0 0 178 [some (.ref 0), none, none, none, some (.int x4), none, none, none] [.int t0] (zm_hp m) (zm_QV K) := by
  unfold j_Table_payForTile_L178 at hJ
  refine zr_istore_n (L' := [some (.ref 0), some (.int t0), none, none, some (.int x4), none, none, none]) d_Table_payForTile_178 rfl (Nat.le_of_ble_eq_true rfl) rfl ?_
  refine zq_iconst (v := 0) d_Table_payForTile_179 zk_i0 ?_
  refine zr_istore_n (L' := [some (.ref 0), some (.int t0), none, some (.int 0), some (.int x4), none, none, none]) d_Table_payForTile_180 rfl (Nat.le_of_ble_eq_true rfl) rfl ?_
  refine zq_iconst (v := 0) d_Table_payForTile_181 zk_i0 ?_
  refine zr_istore_n (L' := [some (.ref 0), some (.int t0), some (.int 0), some (.int 0), some (.int x4), none, none, none]) d_Table_payForTile_182 rfl (Nat.le_of_ble_eq_true rfl) rfl ?_
  refine zr_less (L' := [some (.ref 0), some (.int t0), some (.int 0), some (.int 0), some (.int x4), none, none, none]) ⟨rfl, ⟨rfl, ⟨rfl, ⟨rfl, ⟨rfl, trivial⟩⟩⟩⟩⟩ ?_
  exact s_Table_payForTile_L183  hR19  hJ
set_option maxHeartbeats 400000 in
theorem s_Table_payForTile_L173 {g : zk_T} {R19 : Int32 → Int32 → Int32 → Int32 → zm → Prop} {K : zm → Prop} (hR19 : ∀ {x1 : Int32} {x2 : Int32} {x3 : Int32} {x4 : Int32} {m : zm}, R19 x1 x2 x3 x4 m → zq_V (zk_g g) ("RiichiTable", prog_1_method_48_code, 8, none, false, zq_rm 85 0 0) 0 0 19 [some (.ref 0), some (.int x1), some (.int x2), some (.int x3), some (.int x4), none, none, none] [] (zm_hp m) (zm_QV K)) {x4 : Int32} {m : zm} (hJ : j_Table_payForTile_L173  R19 K x4 m) : zq_V (zk_g g) ("RiichiTable", prog_1_method_48_code, 8, none, false, zq_rm 85 0 0) 0 0 173 [some (.ref 0), none, none, none, some (.int x4), none, none, none] [] (zm_hp m) (zm_QV K) := by
  unfold j_Table_payForTile_L173 at hJ
  refine zq_iconst (v := 1) d_Table_payForTile_173 zk_i1 ?_
  refine zq_goto (tgt := 178) d_Table_payForTile_174 (by decide) ?_
  refine zr_less (L' := [some (.ref 0), none, none, none, some (.int x4), none, none, none]) ⟨rfl, ⟨rfl, trivial⟩⟩ ?_
  exact s_Table_payForTile_L178  hR19  hJ
set_option maxHeartbeats 400000 in
theorem s_Table_payForTile_L99 {g : zk_T} {R19 : Int32 → Int32 → Int32 → Int32 → zm → Prop} {K : zm → Prop} (hR19 : ∀ {x1 : Int32} {x2 : Int32} {x3 : Int32} {x4 : Int32} {m : zm}, R19 x1 x2 x3 x4 m → zq_V (zk_g g) ("RiichiTable", prog_1_method_48_code, 8, none, false, zq_rm 85 0 0) 0 0 19 [some (.ref 0), some (.int x1), some (.int x2), some (.int x3), some (.int x4), none, none, none] [] (zm_hp m) (zm_QV K)) {x1 : Int32} {x2 : Int32} {x3 : Int32} {x4 : Int32} {x5 : Int32} {r6 : Nat} {t0 : Int32} {m : zm} (hr6 : zm_pl r6) (hJ : j_Table_payForTile_L99  R19 K x1 x2 x3 x4 x5 r6 t0 m) : zq_V (zk_g g) ("RiichiTable", prog_1_method_48_code, 8, none, false, zq_rm 85 0 0) 0 0 99 [some (.ref 0), some (.int x1), some (.int x2), some (.int x3), some (.int x4), some (.int x5), some (.ref r6), none] [.int t0] (zm_hp m) (zm_QV K) := by
  unfold j_Table_payForTile_L99 at hJ
  refine zq_aload d_Table_payForTile_99 rfl ?_
  refine zm_getR fg_Table_130 d_Table_payForTile_101 hr6.s rfl ?_
  refine zm_getI fg_Table_143 d_Table_payForTile_104 (zm_pl.w hr6).s rfl ?_
  refine zq_imul d_Table_payForTile_107 ?_
  refine zr_csI (as := [.int (t0 * (m.1 (r6 + 4) 2))]) (st := []) d_Table_payForTile_108 cc_Table_149 cs_Table_toHundreds (s_Table_toHundreds  hJ) rfl ⟨Nat.le_of_ble_eq_true rfl, Nat.le_of_ble_eq_true rfl⟩ (Nat.le_of_ble_eq_true rfl) ⟨Nat.le_refl _, Nat.le_refl _⟩ rfl (fun r13 m12 hJ => ?_)
  refine zq_iload_n d_Table_payForTile_111 rfl rfl ?_
  refine zq_iadd d_Table_payForTile_112 ?_
  refine zr_topi (fun y14 hy14 => ?_)
  have hJ := hJ y14 hy14
  refine zr_istore (L' := [some (.ref 0), some (.int x1), some (.int x2), some (.int x3), some (.int x4), some (.int x5), some (.ref r6), some (.int y14)]) d_Table_payForTile_113 (Nat.le_of_ble_eq_true rfl) rfl ?_
  refine zq_aload_n d_Table_payForTile_115 rfl rfl ?_
  refine zm_getR fg_Table_11 d_Table_payForTile_116 zs_Table rfl ?_
  refine zq_aload_n d_Table_payForTile_119 rfl rfl ?_
  refine zm_getI fg_Table_71 d_Table_payForTile_120 zs_Table rfl ?_
  obtain ⟨hb15, hJ⟩ := hJ
  refine zm_pld d_Table_payForTile_123 hb15 ?_
  refine zq_dup d_Table_payForTile_124 rfl ?_
  refine zm_getI fg_Table_156 d_Table_payForTile_125 (zm_pl_of hb15).s rfl ?_
  refine zq_iload d_Table_payForTile_128 rfl ?_
  refine zq_isub d_Table_payForTile_130 ?_
  refine zr_putI fl_Table_156 d_Table_payForTile_131 (zm_pl_of hb15).s rfl rfl (fun m16 hm16 => ?_)
  have hJ := hJ m16 hm16
  refine zq_aload d_Table_payForTile_134 rfl ?_
  refine zq_dup d_Table_payForTile_136 rfl ?_
  refine zm_getI fg_Table_156 d_Table_payForTile_137 hr6.s rfl ?_
  refine zq_iload d_Table_payForTile_140 rfl ?_
  refine zq_iload_n d_Table_payForTile_142 rfl rfl ?_
  refine zq_iadd d_Table_payForTile_143 ?_
  refine zq_iadd d_Table_payForTile_144 ?_
  refine zr_putI fl_Table_156 d_Table_payForTile_145 hr6.s rfl rfl (fun m17 hm17 => ?_)
  have hJ := hJ m17 hm17
  refine zq_aload d_Table_payForTile_148 rfl ?_
  refine zm_getR fg_Table_130 d_Table_payForTile_150 hr6.s rfl ?_
  refine zq_iload d_Table_payForTile_153 rfl ?_
  refine zq_iload_n d_Table_payForTile_155 rfl rfl ?_
  refine zq_iadd d_Table_payForTile_156 ?_
  refine zr_putI fl_Table_159 d_Table_payForTile_157 (zm_pl.w hr6).s rfl rfl (fun m18 hm18 => ?_)
  have hJ := hJ m18 hm18
  refine zq_iload_n d_Table_payForTile_160 rfl rfl ?_
  refine zq_if_ne (tgt := 173) d_Table_payForTile_161 (by decide) (fun c => ?_) (fun c => ?_)
  · have hJ := hJ.1 c
    refine zr_less (L' := [some (.ref 0), none, none, none, some (.int x4), none, none, none]) ⟨rfl, ⟨rfl, trivial⟩⟩ ?_
    exact s_Table_payForTile_L173  hR19  hJ
  · have hJ := hJ.2 c
    refine zq_iload d_Table_payForTile_164 rfl ?_
    refine zq_aload_n d_Table_payForTile_166 rfl rfl ?_
    refine zm_getI fg_Table_46 d_Table_payForTile_167 zs_Table rfl ?_
    refine zq_icmp_ne (tgt := 177) d_Table_payForTile_170 (by decide) (fun c => ?_) (fun c => ?_)
    · have hJ := hJ.1 c
      refine zq_iconst (v := 0) d_Table_payForTile_177 zk_i0 ?_
      refine zr_less (L' := [some (.ref 0), none, none, none, some (.int x4), none, none, none]) ⟨rfl, ⟨rfl, trivial⟩⟩ ?_
      exact s_Table_payForTile_L178  hR19  hJ
    · have hJ := hJ.2 c
      refine zr_less (L' := [some (.ref 0), none, none, none, some (.int x4), none, none, none]) ⟨rfl, ⟨rfl, trivial⟩⟩ ?_
      exact s_Table_payForTile_L173  hR19  hJ
set_option maxHeartbeats 400000 in
theorem s_Table_payForTile_L19 {g : zk_T} {K : zm → Prop} : ∀ (n : Nat) {x1 : Int32} {x2 : Int32} {x3 : Int32} {x4 : Int32} {m : zm}, j_Table_payForTile_L19   K n x1 x2 x3 x4 m → zq_V (zk_g g) ("RiichiTable", prog_1_method_48_code, 8, none, false, zq_rm 85 0 0) 0 0 19 [some (.ref 0), some (.int x1), some (.int x2), some (.int x3), some (.int x4), none, none, none] [] (zm_hp m) (zm_QV K) := by
  intro n
  induction n with
  | zero =>
    intro x1 x2 x3 x4 m hJ
    exact False.elim hJ
  | succ n ih =>
    intro x1 x2 x3 x4 m hJ
    rw [j_Table_payForTile_L19] at hJ
    refine zq_iload d_Table_payForTile_19 rfl ?_
    refine zq_iconst (v := 4) d_Table_payForTile_21 zk_i4 ?_
    refine zq_icmp_ge (tgt := 189) d_Table_payForTile_22 (by decide) (fun c => ?_) (fun c => ?_)
    · have hJ := hJ.1 c
      refine zq_aload_n d_Table_payForTile_189 rfl rfl ?_
      refine zq_iload_n d_Table_payForTile_190 rfl rfl ?_
      refine zq_iconst (v := 0) d_Table_payForTile_191 zk_i0 ?_
      refine zr_cvV (q := 0) (as := [.int x1, .int 0]) (st := []) d_Table_payForTile_192 cc_Table_162 cv_Table_endHand zs_Table (s_Table_endHand  hJ) rfl ⟨Nat.le_of_ble_eq_true rfl, Nat.le_of_ble_eq_true rfl⟩ (Nat.le_of_ble_eq_true rfl) ⟨Nat.le_refl _, Nat.le_refl _⟩ rfl (fun m4 hJ => ?_)
      exact zq_vret d_Table_payForTile_195 rfl (Nat.le_refl _) (Nat.le_refl _) ⟨_, rfl, rfl, hJ⟩
    · have hJ := hJ.2 c
      refine zq_aload_n d_Table_payForTile_25 rfl rfl ?_
      refine zm_getI fg_Table_71 d_Table_payForTile_26 zs_Table rfl ?_
      refine zq_iload d_Table_payForTile_29 rfl ?_
      refine zq_iadd d_Table_payForTile_31 ?_
      refine zq_iconst (v := 4) d_Table_payForTile_32 zk_i4 ?_
      refine zq_irem d_Table_payForTile_33 (by decide) ?_
      refine zr_topi (fun y5 hy5 => ?_)
      have hJ := hJ y5 hy5
      refine zr_istore (L' := [some (.ref 0), some (.int x1), some (.int x2), some (.int x3), some (.int x4), some (.int y5), none, none]) d_Table_payForTile_34 (Nat.le_of_ble_eq_true rfl) rfl ?_
      refine zq_aload_n d_Table_payForTile_36 rfl rfl ?_
      refine zm_getR fg_Table_11 d_Table_payForTile_37 zs_Table rfl ?_
      refine zq_iload d_Table_payForTile_40 rfl ?_
      obtain ⟨hb6, hJ⟩ := hJ
      refine zm_pld d_Table_payForTile_42 hb6 ?_
      refine zr_topr (fun y7 hy7 => ?_)
      have hJ := hJ y7 hy7
      refine zr_astore (L' := [some (.ref 0), some (.int x1), some (.int x2), some (.int x3), some (.int x4), some (.int y5), some (.ref y7), none]) d_Table_payForTile_43 (Nat.le_of_ble_eq_true rfl) rfl ?_
      refine zq_aload d_Table_payForTile_45 rfl ?_
      refine zm_getI fg_Table_179 d_Table_payForTile_47 (hy7.symm ▸ (zm_pl_of hb6) : zm_pl y7).s rfl ?_
      refine zq_iconst (v := 4) d_Table_payForTile_50 zk_i4 ?_
      refine zq_icmp_ne (tgt := 183) d_Table_payForTile_51 (by decide) (fun c => ?_) (fun c => ?_)
      · have hJ := hJ.1 c
        refine zr_less (L' := [some (.ref 0), some (.int x1), some (.int x2), some (.int x3), some (.int x4), none, none, none]) ⟨rfl, ⟨rfl, ⟨rfl, ⟨rfl, ⟨rfl, trivial⟩⟩⟩⟩⟩ ?_
        exact s_Table_payForTile_L183  ih  hJ
      · have hJ := hJ.2 c
        refine zq_aload_n d_Table_payForTile_54 rfl rfl ?_
        refine zq_iload d_Table_payForTile_55 rfl ?_
        refine zq_iconst (v := 0) d_Table_payForTile_57 zk_i0 ?_
        refine zr_cvV (q := 0) (as := [.int y5, .int 0]) (st := []) d_Table_payForTile_58 cc_Table_123 cv_Table_showHand zs_Table (s_Table_showHand  hJ) rfl ⟨Nat.le_of_ble_eq_true rfl, Nat.le_of_ble_eq_true rfl⟩ (Nat.le_of_ble_eq_true rfl) ⟨Nat.le_refl _, Nat.le_refl _⟩ rfl (fun m8 hJ => ?_)
        refine zq_aload_n d_Table_payForTile_61 rfl rfl ?_
        refine zm_getR fg_Table_18 d_Table_payForTile_62 zs_Table rfl ?_
        refine zr_cvI (q := 2) (as := []) (st := []) d_Table_payForTile_65 cc_Table_127 cv_Judge_findBest zs_Judge (s_Judge_findBest  hJ) rfl ⟨Nat.le_of_ble_eq_true rfl, Nat.le_of_ble_eq_true rfl⟩ (Nat.le_of_ble_eq_true rfl) ⟨Nat.le_refl _, Nat.le_refl _⟩ rfl (fun r10 m9 hJ => ?_)
        refine zq_pop d_Table_payForTile_68 rfl ?_
        refine zq_aload d_Table_payForTile_69 rfl ?_
        refine zm_getR fg_Table_130 d_Table_payForTile_71 (hy7.symm ▸ (zm_pl_of hb6) : zm_pl y7).s rfl ?_
        refine zq_aload_n d_Table_payForTile_74 rfl rfl ?_
        refine zm_getR fg_Table_18 d_Table_payForTile_75 zs_Table rfl ?_
        refine zm_getR fg_Table_134 d_Table_payForTile_78 zs_Judge rfl ?_
        refine zr_cvV (q := (y7 + 4)) (as := [.ref 10]) (st := []) d_Table_payForTile_81 cc_Table_137 cv_Worth_copy (zm_pl.w (hy7.symm ▸ (zm_pl_of hb6) : zm_pl y7)).s (s_Worth_copy (zm_pl.w (hy7.symm ▸ (zm_pl_of hb6) : zm_pl y7)) zw_10 hJ) rfl ⟨Nat.le_of_ble_eq_true rfl, Nat.le_of_ble_eq_true rfl⟩ (Nat.le_of_ble_eq_true rfl) ⟨Nat.le_refl _, Nat.le_refl _⟩ rfl (fun m11 hJ => ?_)
        refine zq_iload d_Table_payForTile_84 rfl ?_
        refine zq_aload_n d_Table_payForTile_86 rfl rfl ?_
        refine zm_getI fg_Table_46 d_Table_payForTile_87 zs_Table rfl ?_
        refine zq_icmp_ne (tgt := 98) d_Table_payForTile_90 (by decide) (fun c => ?_) (fun c => ?_)
        · have hJ := hJ.1 c
          refine zq_iconst (v := 4) d_Table_payForTile_98 zk_i4 ?_
          refine zr_less (L' := [some (.ref 0), some (.int x1), some (.int x2), some (.int x3), some (.int x4), some (.int y5), some (.ref y7), none]) ⟨rfl, ⟨rfl, ⟨rfl, ⟨rfl, ⟨rfl, ⟨rfl, ⟨rfl, trivial⟩⟩⟩⟩⟩⟩⟩ ?_
          exact s_Table_payForTile_L99  ih (hy7.symm ▸ (zm_pl_of hb6) : zm_pl y7) hJ
        · have hJ := hJ.2 c
          refine zq_bipush (v := 6) d_Table_payForTile_93 zk_b6 ?_
          refine zq_goto (tgt := 99) d_Table_payForTile_95 (by decide) ?_
          refine zr_less (L' := [some (.ref 0), some (.int x1), some (.int x2), some (.int x3), some (.int x4), some (.int y5), some (.ref y7), none]) ⟨rfl, ⟨rfl, ⟨rfl, ⟨rfl, ⟨rfl, ⟨rfl, ⟨rfl, trivial⟩⟩⟩⟩⟩⟩⟩ ?_
          exact s_Table_payForTile_L99  ih (hy7.symm ▸ (zm_pl_of hb6) : zm_pl y7) hJ
set_option maxHeartbeats 400000 in
theorem s_Table_payForTile {g : zk_T} {K : zm → Prop} {m : zm} (hJ : j_Table_payForTile  m K) : zq_Mt (zk_g g) y_Table_payForTile 85 0 0 [.ref 0] (zm_hp m) (zm_QV K) := by
  unfold j_Table_payForTile at hJ
  refine zq_meth (ini := false) rfl (fun h => by cases h) (Nat.le_of_ble_eq_true rfl) ?_
  refine zr_L (F := ("RiichiTable", prog_1_method_48_code, 8, none, false, zq_rm 85 0 0)) (L' := [some (.ref 0), none, none, none, none, none, none, none]) rfl ?_
  refine zq_iconst (v := 0) d_Table_payForTile_0 zk_i0 ?_
  refine zr_istore_n (L' := [some (.ref 0), some (.int 0), none, none, none, none, none, none]) d_Table_payForTile_1 rfl (Nat.le_of_ble_eq_true rfl) rfl ?_
  refine zq_aload_n d_Table_payForTile_2 rfl rfl ?_
  refine zr_cvI (q := 0) (as := []) (st := []) d_Table_payForTile_3 cc_Table_146 cv_Table_takeSticks zs_Table (s_Table_takeSticks  hJ) rfl ⟨Nat.le_of_ble_eq_true rfl, Nat.le_of_ble_eq_true rfl⟩ (Nat.le_of_ble_eq_true rfl) ⟨Nat.le_refl _, Nat.le_refl _⟩ rfl (fun r2 m1 hJ => ?_)
  refine zr_istore_n (L' := [some (.ref 0), some (.int 0), some (.int r2), none, none, none, none, none]) d_Table_payForTile_6 rfl (Nat.le_of_ble_eq_true rfl) rfl ?_
  refine zq_sipush (v := 300) d_Table_payForTile_7 zk_s300 ?_
  refine zq_aload_n d_Table_payForTile_10 rfl rfl ?_
  refine zm_getI fg_Table_153 d_Table_payForTile_11 zs_Table rfl ?_
  refine zq_imul d_Table_payForTile_14 ?_
  refine zr_topi (fun y3 hy3 => ?_)
  have hJ := hJ y3 hy3
  refine zr_istore_n (L' := [some (.ref 0), some (.int 0), some (.int r2), some (.int y3), none, none, none, none]) d_Table_payForTile_15 rfl (Nat.le_of_ble_eq_true rfl) rfl ?_
  refine zq_iconst (v := 1) d_Table_payForTile_16 zk_i1 ?_
  refine zr_istore (L' := [some (.ref 0), some (.int 0), some (.int r2), some (.int y3), some (.int 1), none, none, none]) d_Table_payForTile_17 (Nat.le_of_ble_eq_true rfl) rfl ?_
  refine zr_less (L' := [some (.ref 0), some (.int 0), some (.int r2), some (.int y3), some (.int 1), none, none, none]) ⟨rfl, ⟨rfl, ⟨rfl, ⟨rfl, ⟨rfl, trivial⟩⟩⟩⟩⟩ ?_
  obtain ⟨n19, hJ⟩ := hJ
  exact s_Table_payForTile_L19   n19  hJ
set_option maxHeartbeats 400000 in
theorem s_Table_payStick_L37 {g : zk_T} {K : zm → Prop} {m : zm} (hJ : j_Table_payStick_L37   K  m) : zq_V (zk_g g) ("RiichiTable", prog_1_method_36_code, 1, none, false, zq_rm 0 0 0) 0 0 37 [some (.ref 0)] [] (zm_hp m) (zm_QV K) := by
  unfold j_Table_payStick_L37 at hJ
  exact zq_vret d_Table_payStick_37 rfl (Nat.le_refl _) (Nat.le_refl _) ⟨_, rfl, rfl, hJ⟩
set_option maxHeartbeats 400000 in
theorem s_Table_payStick {g : zk_T} {K : zm → Prop} {m : zm} (hJ : j_Table_payStick  m K) : zq_Mt (zk_g g) y_Table_payStick 0 0 0 [.ref 0] (zm_hp m) (zm_QV K) := by
  unfold j_Table_payStick at hJ
  refine zq_meth (ini := false) rfl (fun h => by cases h) (Nat.le_of_ble_eq_true rfl) ?_
  refine zr_L (F := ("RiichiTable", prog_1_method_36_code, 1, none, false, zq_rm 0 0 0)) (L' := [some (.ref 0)]) rfl ?_
  refine zq_aload_n d_Table_payStick_0 rfl rfl ?_
  refine zm_getI fg_Table_90 d_Table_payStick_1 zs_Table rfl ?_
  refine zq_if_eq (tgt := 37) d_Table_payStick_4 (by decide) (fun c => ?_) (fun c => ?_)
  · have hJ := hJ.1 c
    refine zr_less (L' := [some (.ref 0)]) ⟨rfl, trivial⟩ ?_
    exact s_Table_payStick_L37    hJ
  · have hJ := hJ.2 c
    refine zq_aload_n d_Table_payStick_7 rfl rfl ?_
    refine zm_getR fg_Table_11 d_Table_payStick_8 zs_Table rfl ?_
    refine zq_aload_n d_Table_payStick_11 rfl rfl ?_
    refine zm_getI fg_Table_71 d_Table_payStick_12 zs_Table rfl ?_
    obtain ⟨hb1, hJ⟩ := hJ
    refine zm_pld d_Table_payStick_15 hb1 ?_
    refine zq_dup d_Table_payStick_16 rfl ?_
    refine zm_getI fg_Table_156 d_Table_payStick_17 (zm_pl_of hb1).s rfl ?_
    refine zq_sipush (v := 1000) d_Table_payStick_20 zk_s1000 ?_
    refine zq_isub d_Table_payStick_23 ?_
    refine zr_putI fl_Table_156 d_Table_payStick_24 (zm_pl_of hb1).s rfl rfl (fun m2 hm2 => ?_)
    have hJ := hJ m2 hm2
    refine zq_aload_n d_Table_payStick_27 rfl rfl ?_
    refine zq_dup d_Table_payStick_28 rfl ?_
    refine zm_getI fg_Table_210 d_Table_payStick_29 zs_Table rfl ?_
    refine zq_iconst (v := 1) d_Table_payStick_32 zk_i1 ?_
    refine zq_iadd d_Table_payStick_33 ?_
    refine zr_putI fl_Table_210 d_Table_payStick_34 zs_Table rfl rfl (fun m3 hm3 => ?_)
    have hJ := hJ m3 hm3
    refine zr_less (L' := [some (.ref 0)]) ⟨rfl, trivial⟩ ?_
    exact s_Table_payStick_L37    hJ
set_option maxHeartbeats 400000 in
theorem s_Table_settle_L42 {g : zk_T} {K : zm → Prop} {m : zm} (hJ : j_Table_settle_L42   K  m) : zq_V (zk_g g) ("RiichiTable", prog_1_method_33_code, 1, none, false, zq_rm 86 0 0) 0 0 42 [some (.ref 0)] [] (zm_hp m) (zm_QV K) := by
  unfold j_Table_settle_L42 at hJ
  exact zq_vret d_Table_settle_42 rfl (Nat.le_refl _) (Nat.le_refl _) ⟨_, rfl, rfl, hJ⟩
set_option maxHeartbeats 400000 in
theorem s_Table_settle {g : zk_T} {K : zm → Prop} {m : zm} (hJ : j_Table_settle  m K) : zq_Mt (zk_g g) y_Table_settle 86 0 0 [.ref 0] (zm_hp m) (zm_QV K) := by
  unfold j_Table_settle at hJ
  refine zq_meth (ini := false) rfl (fun h => by cases h) (Nat.le_of_ble_eq_true rfl) ?_
  refine zr_L (F := ("RiichiTable", prog_1_method_33_code, 1, none, false, zq_rm 86 0 0)) (L' := [some (.ref 0)]) rfl ?_
  refine zq_aload_n d_Table_settle_0 rfl rfl ?_
  refine zr_cvV (q := 0) (as := []) (st := []) d_Table_settle_1 cc_Table_238 cv_Table_noteMissed zs_Table (s_Table_noteMissed  hJ) rfl ⟨Nat.le_of_ble_eq_true rfl, Nat.le_of_ble_eq_true rfl⟩ (Nat.le_of_ble_eq_true rfl) ⟨Nat.le_refl _, Nat.le_refl _⟩ rfl (fun m1 hJ => ?_)
  refine zq_aload_n d_Table_settle_4 rfl rfl ?_
  refine zq_iconst (v := 4) d_Table_settle_5 zk_i4 ?_
  refine zr_cvI (q := 0) (as := [.int 4]) (st := []) d_Table_settle_6 cc_Table_241 cv_Table_findAnswer zs_Table (s_Table_findAnswer  hJ) rfl ⟨Nat.le_of_ble_eq_true rfl, Nat.le_of_ble_eq_true rfl⟩ (Nat.le_of_ble_eq_true rfl) ⟨Nat.le_refl _, Nat.le_refl _⟩ rfl (fun r3 m2 hJ => ?_)
  refine zq_iconst (v := (-1)) d_Table_settle_9 zk_im1 ?_
  refine zq_icmp_eq (tgt := 20) d_Table_settle_10 (by decide) (fun c => ?_) (fun c => ?_)
  · have hJ := hJ.1 c
    refine zq_aload_n d_Table_settle_20 rfl rfl ?_
    refine zm_getI fg_Table_93 d_Table_settle_21 zs_Table rfl ?_
    refine zq_if_eq (tgt := 34) d_Table_settle_24 (by decide) (fun c => ?_) (fun c => ?_)
    · have hJ := hJ.1 c
      refine zq_aload_n d_Table_settle_34 rfl rfl ?_
      refine zr_cvV (q := 0) (as := []) (st := []) d_Table_settle_35 cc_Table_247 cv_Table_payStick zs_Table (s_Table_payStick  hJ) rfl ⟨Nat.le_of_ble_eq_true rfl, Nat.le_of_ble_eq_true rfl⟩ (Nat.le_of_ble_eq_true rfl) ⟨Nat.le_refl _, Nat.le_refl _⟩ rfl (fun m4 hJ => ?_)
      refine zq_aload_n d_Table_settle_38 rfl rfl ?_
      refine zr_cvV (q := 0) (as := []) (st := []) d_Table_settle_39 cc_Table_250 cv_Table_handOver zs_Table (s_Table_handOver  hJ) rfl ⟨Nat.le_of_ble_eq_true rfl, Nat.le_of_ble_eq_true rfl⟩ (Nat.le_of_ble_eq_true rfl) ⟨Nat.le_refl _, Nat.le_refl _⟩ rfl (fun m5 hJ => ?_)
      refine zr_less (L' := [some (.ref 0)]) ⟨rfl, trivial⟩ ?_
      exact s_Table_settle_L42    hJ
    · have hJ := hJ.2 c
      refine zq_aload_n d_Table_settle_27 rfl rfl ?_
      refine zr_cvV (q := 0) (as := []) (st := []) d_Table_settle_28 cc_Table_120 cv_Table_completeAddedQuad zs_Table (s_Table_completeAddedQuad  hJ) rfl ⟨Nat.le_of_ble_eq_true rfl, Nat.le_of_ble_eq_true rfl⟩ (Nat.le_of_ble_eq_true rfl) ⟨Nat.le_refl _, Nat.le_refl _⟩ rfl (fun m6 hJ => ?_)
      refine zq_goto (tgt := 42) d_Table_settle_31 (by decide) ?_
      refine zr_less (L' := [some (.ref 0)]) ⟨rfl, trivial⟩ ?_
      exact s_Table_settle_L42    hJ
  · have hJ := hJ.2 c
    refine zq_aload_n d_Table_settle_13 rfl rfl ?_
    refine zr_cvV (q := 0) (as := []) (st := []) d_Table_settle_14 cc_Table_244 cv_Table_payForTile zs_Table (s_Table_payForTile  hJ) rfl ⟨Nat.le_of_ble_eq_true rfl, Nat.le_of_ble_eq_true rfl⟩ (Nat.le_of_ble_eq_true rfl) ⟨Nat.le_refl _, Nat.le_refl _⟩ rfl (fun m7 hJ => ?_)
    refine zq_goto (tgt := 42) d_Table_settle_17 (by decide) ?_
    refine zr_less (L' := [some (.ref 0)]) ⟨rfl, trivial⟩ ?_
    exact s_Table_settle_L42    hJ
set_option maxHeartbeats 400000 in
theorem s_Table_discard_L15 {g : zk_T} {a1 : Int32} {a2 : Int32} {K : Int32 → zm → Prop} {m : zm} (hJ : j_Table_discard_L15 a1 a2  K  m) : zq_V (zk_g g) ("RiichiTable", prog_1_method_4_code, 5, (some .int), false, zq_rm 87 0 0) 0 0 15 [some (.ref 0), some (.int a1), some (.int a2), none, none] [] (zm_hp m) (zm_QI K) := by
  unfold j_Table_discard_L15 at hJ
  refine zq_iconst (v := (-1)) d_Table_discard_15 zk_im1 ?_
  exact zq_iret d_Table_discard_16 rfl rfl (Nat.le_refl _) (Nat.le_refl _) ⟨_, _, rfl, rfl, hJ⟩
set_option maxHeartbeats 400000 in
theorem s_Table_discard_L51 {g : zk_T} {a1 : Int32} {a2 : Int32} {K : Int32 → zm → Prop} {m : zm} (hJ : j_Table_discard_L51 a1 a2  K  m) : zq_V (zk_g g) ("RiichiTable", prog_1_method_4_code, 5, (some .int), false, zq_rm 87 0 0) 0 0 51 [some (.ref 0), some (.int a1), some (.int a2), none, none] [] (zm_hp m) (zm_QI K) := by
  unfold j_Table_discard_L51 at hJ
  refine zq_iconst (v := (-1)) d_Table_discard_51 zk_im1 ?_
  exact zq_iret d_Table_discard_52 rfl rfl (Nat.le_refl _) (Nat.le_refl _) ⟨_, _, rfl, rfl, hJ⟩
set_option maxHeartbeats 400000 in
theorem s_Table_discard_L140 {g : zk_T} {a1 : Int32} {a2 : Int32} {K : Int32 → zm → Prop} {m : zm} (hJ : j_Table_discard_L140 a1 a2  K  m) : zq_V (zk_g g) ("RiichiTable", prog_1_method_4_code, 5, (some .int), false, zq_rm 87 0 0) 0 0 140 [some (.ref 0), some (.int a1), some (.int a2), none, none] [] (zm_hp m) (zm_QI K) := by
  unfold j_Table_discard_L140 at hJ
  refine zq_aload_n d_Table_discard_140 rfl rfl ?_
  refine zm_getI fg_Table_22 d_Table_discard_141 zs_Table rfl ?_
  exact zq_iret d_Table_discard_144 rfl rfl (Nat.le_refl _) (Nat.le_refl _) ⟨_, _, rfl, rfl, hJ⟩
set_option maxHeartbeats 400000 in
theorem s_Table_discard_L109 {g : zk_T} {a1 : Int32} {a2 : Int32} {K : Int32 → zm → Prop} {m : zm} (hJ : j_Table_discard_L109 a1 a2  K  m) : zq_V (zk_g g) ("RiichiTable", prog_1_method_4_code, 5, (some .int), false, zq_rm 87 0 0) 0 0 109 [some (.ref 0), some (.int a1), some (.int a2), none, none] [] (zm_hp m) (zm_QI K) := by
  unfold j_Table_discard_L109 at hJ
  refine zq_aload_n d_Table_discard_109 rfl rfl ?_
  refine zq_iload_n d_Table_discard_110 rfl rfl ?_
  obtain ⟨hb, hJ⟩ := hJ
  refine zr_putZ fl_Table_90 d_Table_discard_111 zs_Table rfl rfl hb (fun m10 hm10 => ?_)
  have hJ := hJ m10 hm10
  refine zq_aload_n d_Table_discard_114 rfl rfl ?_
  refine zq_iload_n d_Table_discard_115 rfl rfl ?_
  refine zr_putI fl_Table_26 d_Table_discard_116 zs_Table rfl rfl (fun m11 hm11 => ?_)
  have hJ := hJ m11 hm11
  refine zq_aload_n d_Table_discard_119 rfl rfl ?_
  refine zq_iconst (v := 0) d_Table_discard_120 zk_i0 ?_
  refine zr_putZ fl_Table_93 d_Table_discard_121 zs_Table rfl rfl (Or.inl rfl) (fun m12 hm12 => ?_)
  have hJ := hJ m12 hm12
  refine zq_aload_n d_Table_discard_124 rfl rfl ?_
  refine zq_iconst (v := 2) d_Table_discard_125 zk_i2 ?_
  refine zr_putI fl_Table_22 d_Table_discard_126 zs_Table rfl rfl (fun m13 hm13 => ?_)
  have hJ := hJ m13 hm13
  refine zq_aload_n d_Table_discard_129 rfl rfl ?_
  refine zr_cvI (q := 0) (as := []) (st := []) d_Table_discard_130 cc_Table_96 cv_Table_offerClaims zs_Table (s_Table_offerClaims  hJ) rfl ⟨Nat.le_of_ble_eq_true rfl, Nat.le_of_ble_eq_true rfl⟩ (Nat.le_of_ble_eq_true rfl) ⟨Nat.le_refl _, Nat.le_refl _⟩ rfl (fun r15 m14 hJ => ?_)
  refine zq_if_ne (tgt := 140) d_Table_discard_133 (by decide) (fun c => ?_) (fun c => ?_)
  · have hJ := hJ.1 c
    refine zr_less (L' := [some (.ref 0), some (.int a1), some (.int a2), none, none]) ⟨rfl, ⟨rfl, ⟨rfl, trivial⟩⟩⟩ ?_
    exact s_Table_discard_L140    hJ
  · have hJ := hJ.2 c
    refine zq_aload_n d_Table_discard_136 rfl rfl ?_
    refine zr_cvV (q := 0) (as := []) (st := []) d_Table_discard_137 cc_Table_100 cv_Table_settle zs_Table (s_Table_settle  hJ) rfl ⟨Nat.le_of_ble_eq_true rfl, Nat.le_of_ble_eq_true rfl⟩ (Nat.le_of_ble_eq_true rfl) ⟨Nat.le_refl _, Nat.le_refl _⟩ rfl (fun m16 hJ => ?_)
    refine zr_less (L' := [some (.ref 0), some (.int a1), some (.int a2), none, none]) ⟨rfl, ⟨rfl, ⟨rfl, trivial⟩⟩⟩ ?_
    exact s_Table_discard_L140    hJ
set_option maxHeartbeats 400000 in
theorem s_Table_discard_L87 {g : zk_T} {a1 : Int32} {a2 : Int32} {K : Int32 → zm → Prop} {r3 : Nat} {t0 : Int32} {m : zm} (hr3 : zm_pl r3) (hJ : j_Table_discard_L87 a1 a2  K r3 t0 m) : zq_V (zk_g g) ("RiichiTable", prog_1_method_4_code, 5, (some .int), false, zq_rm 87 0 0) 0 0 87 [some (.ref 0), some (.int a1), some (.int a2), some (.ref r3), none] [.int t0] (zm_hp m) (zm_QI K) := by
  unfold j_Table_discard_L87 at hJ
  refine zr_istore (L' := [some (.ref 0), some (.int a1), some (.int a2), some (.ref r3), some (.int t0)]) d_Table_discard_87 (Nat.le_of_ble_eq_true rfl) rfl ?_
  refine zq_aload_n d_Table_discard_89 rfl rfl ?_
  refine zq_iload_n d_Table_discard_90 rfl rfl ?_
  refine zr_cvV (q := r3) (as := [.int a1]) (st := []) d_Table_discard_91 cc_Table_84 cv_Player_layOff hr3.s (s_Player_layOff hr3 hJ) rfl ⟨Nat.le_of_ble_eq_true rfl, Nat.le_of_ble_eq_true rfl⟩ (Nat.le_of_ble_eq_true rfl) ⟨Nat.le_refl _, Nat.le_refl _⟩ rfl (fun m7 hJ => ?_)
  refine zq_aload_n d_Table_discard_94 rfl rfl ?_
  refine zq_iload_n d_Table_discard_95 rfl rfl ?_
  obtain ⟨hb, hJ⟩ := hJ
  refine zr_putZ fl_Table_87 d_Table_discard_96 hr3.s rfl rfl hb (fun m8 hm8 => ?_)
  have hJ := hJ m8 hm8
  refine zq_iload_n d_Table_discard_99 rfl rfl ?_
  refine zq_if_eq (tgt := 109) d_Table_discard_100 (by decide) (fun c => ?_) (fun c => ?_)
  · have hJ := hJ.1 c
    refine zr_less (L' := [some (.ref 0), some (.int a1), some (.int a2), none, none]) ⟨rfl, ⟨rfl, ⟨rfl, trivial⟩⟩⟩ ?_
    exact s_Table_discard_L109    hJ
  · have hJ := hJ.2 c
    refine zq_aload_n d_Table_discard_103 rfl rfl ?_
    refine zq_iload d_Table_discard_104 rfl ?_
    refine zr_putI fl_Table_74 d_Table_discard_106 hr3.s rfl rfl (fun m9 hm9 => ?_)
    have hJ := hJ m9 hm9
    refine zr_less (L' := [some (.ref 0), some (.int a1), some (.int a2), none, none]) ⟨rfl, ⟨rfl, ⟨rfl, trivial⟩⟩⟩ ?_
    exact s_Table_discard_L109    hJ
set_option maxHeartbeats 400000 in
theorem s_Table_discard_L86 {g : zk_T} {a1 : Int32} {a2 : Int32} {K : Int32 → zm → Prop} {r3 : Nat} {m : zm} (hr3 : zm_pl r3) (hJ : j_Table_discard_L86 a1 a2  K r3 m) : zq_V (zk_g g) ("RiichiTable", prog_1_method_4_code, 5, (some .int), false, zq_rm 87 0 0) 0 0 86 [some (.ref 0), some (.int a1), some (.int a2), some (.ref r3), none] [] (zm_hp m) (zm_QI K) := by
  unfold j_Table_discard_L86 at hJ
  refine zq_iconst (v := 1) d_Table_discard_86 zk_i1 ?_
  refine zr_less (L' := [some (.ref 0), some (.int a1), some (.int a2), some (.ref r3), none]) ⟨rfl, ⟨rfl, ⟨rfl, ⟨rfl, trivial⟩⟩⟩⟩ ?_
  exact s_Table_discard_L87   hr3 hJ
set_option maxHeartbeats 400000 in
theorem s_Table_discard_L68 {g : zk_T} {a1 : Int32} {a2 : Int32} {K : Int32 → zm → Prop} {r3 : Nat} {m : zm} (hr3 : zm_pl r3) (hJ : j_Table_discard_L68 a1 a2  K r3 m) : zq_V (zk_g g) ("RiichiTable", prog_1_method_4_code, 5, (some .int), false, zq_rm 87 0 0) 0 0 68 [some (.ref 0), some (.int a1), some (.int a2), some (.ref r3), none] [] (zm_hp m) (zm_QI K) := by
  unfold j_Table_discard_L68 at hJ
  refine zq_aload_n d_Table_discard_68 rfl rfl ?_
  refine zm_getI fg_Table_81 d_Table_discard_69 hr3.s rfl ?_
  refine zq_if_ne (tgt := 86) d_Table_discard_72 (by decide) (fun c => ?_) (fun c => ?_)
  · have hJ := hJ.1 c
    refine zr_less (L' := [some (.ref 0), some (.int a1), some (.int a2), some (.ref r3), none]) ⟨rfl, ⟨rfl, ⟨rfl, ⟨rfl, trivial⟩⟩⟩⟩ ?_
    exact s_Table_discard_L86   hr3 hJ
  · have hJ := hJ.2 c
    refine zq_aload_n d_Table_discard_75 rfl rfl ?_
    refine zm_getI fg_Table_60 d_Table_discard_76 zs_Table rfl ?_
    refine zq_if_ne (tgt := 86) d_Table_discard_79 (by decide) (fun c => ?_) (fun c => ?_)
    · have hJ := hJ.1 c
      refine zr_less (L' := [some (.ref 0), some (.int a1), some (.int a2), some (.ref r3), none]) ⟨rfl, ⟨rfl, ⟨rfl, ⟨rfl, trivial⟩⟩⟩⟩ ?_
      exact s_Table_discard_L86   hr3 hJ
    · have hJ := hJ.2 c
      refine zq_iconst (v := 2) d_Table_discard_82 zk_i2 ?_
      refine zq_goto (tgt := 87) d_Table_discard_83 (by decide) ?_
      refine zr_less (L' := [some (.ref 0), some (.int a1), some (.int a2), some (.ref r3), none]) ⟨rfl, ⟨rfl, ⟨rfl, ⟨rfl, trivial⟩⟩⟩⟩ ?_
      exact s_Table_discard_L87   hr3 hJ
set_option maxHeartbeats 400000 in
theorem s_Table_discard_L53 {g : zk_T} {a1 : Int32} {a2 : Int32} {K : Int32 → zm → Prop} {r3 : Nat} {m : zm} (hr3 : zm_pl r3) (hJ : j_Table_discard_L53 a1 a2  K r3 m) : zq_V (zk_g g) ("RiichiTable", prog_1_method_4_code, 5, (some .int), false, zq_rm 87 0 0) 0 0 53 [some (.ref 0), some (.int a1), some (.int a2), some (.ref r3), none] [] (zm_hp m) (zm_QI K) := by
  unfold j_Table_discard_L53 at hJ
  refine zq_iload_n d_Table_discard_53 rfl rfl ?_
  refine zq_if_eq (tgt := 68) d_Table_discard_54 (by decide) (fun c => ?_) (fun c => ?_)
  · have hJ := hJ.1 c
    refine zr_less (L' := [some (.ref 0), some (.int a1), some (.int a2), some (.ref r3), none]) ⟨rfl, ⟨rfl, ⟨rfl, ⟨rfl, trivial⟩⟩⟩⟩ ?_
    exact s_Table_discard_L68   hr3 hJ
  · have hJ := hJ.2 c
    refine zq_aload_n d_Table_discard_57 rfl rfl ?_
    refine zq_aload_n d_Table_discard_58 rfl rfl ?_
    refine zq_iload_n d_Table_discard_59 rfl rfl ?_
    refine zr_cvI (q := 0) (as := [.ref r3, .int a1]) (st := []) d_Table_discard_60 cc_Table_77 cv_Table_mayRiichi zs_Table (s_Table_mayRiichi hr3 hJ) rfl ⟨Nat.le_of_ble_eq_true rfl, Nat.le_of_ble_eq_true rfl⟩ (Nat.le_of_ble_eq_true rfl) ⟨Nat.le_refl _, Nat.le_refl _⟩ rfl (fun r6 m5 hJ => ?_)
    refine zq_if_ne (tgt := 68) d_Table_discard_63 (by decide) (fun c => ?_) (fun c => ?_)
    · have hJ := hJ.1 c
      refine zr_less (L' := [some (.ref 0), some (.int a1), some (.int a2), some (.ref r3), none]) ⟨rfl, ⟨rfl, ⟨rfl, ⟨rfl, trivial⟩⟩⟩⟩ ?_
      exact s_Table_discard_L68   hr3 hJ
    · have hJ := hJ.2 c
      refine zq_iconst (v := (-1)) d_Table_discard_66 zk_im1 ?_
      exact zq_iret d_Table_discard_67 rfl rfl (Nat.le_refl _) (Nat.le_refl _) ⟨_, _, rfl, rfl, hJ⟩
set_option maxHeartbeats 400000 in
theorem s_Table_discard {g : zk_T} {a1 : Int32} {a2 : Int32} {K : Int32 → zm → Prop} {m : zm} (hJ : j_Table_discard a1 a2 m K) : zq_Mt (zk_g g) y_Table_discard 87 0 0 [.ref 0, .int a1, .int a2] (zm_hp m) (zm_QI K) := by
  unfold j_Table_discard at hJ
  refine zq_meth (ini := false) rfl (fun h => by cases h) (Nat.le_of_ble_eq_true rfl) ?_
  refine zr_L (F := ("RiichiTable", prog_1_method_4_code, 5, (some .int), false, zq_rm 87 0 0)) (L' := [some (.ref 0), some (.int a1), some (.int a2), none, none]) rfl ?_
  refine zq_aload_n d_Table_discard_0 rfl rfl ?_
  refine zm_getI fg_Table_22 d_Table_discard_1 zs_Table rfl ?_
  refine zq_iconst (v := 1) d_Table_discard_4 zk_i1 ?_
  refine zq_icmp_ne (tgt := 15) d_Table_discard_5 (by decide) (fun c => ?_) (fun c => ?_)
  · have hJ := hJ.1 c
    refine zr_less (L' := [some (.ref 0), some (.int a1), some (.int a2), none, none]) ⟨rfl, ⟨rfl, ⟨rfl, trivial⟩⟩⟩ ?_
    exact s_Table_discard_L15    hJ
  · have hJ := hJ.2 c
    refine zq_iload_n d_Table_discard_8 rfl rfl ?_
    refine zr_csI (as := [.int a1]) (st := []) d_Table_discard_9 cc_Table_67 cs_Table_isKind (s_Table_isKind  hJ) rfl ⟨Nat.le_of_ble_eq_true rfl, Nat.le_of_ble_eq_true rfl⟩ (Nat.le_of_ble_eq_true rfl) ⟨Nat.le_refl _, Nat.le_refl _⟩ rfl (fun r2 m1 hJ => ?_)
    refine zq_if_ne (tgt := 17) d_Table_discard_12 (by decide) (fun c => ?_) (fun c => ?_)
    · have hJ := hJ.1 c
      refine zq_aload_n d_Table_discard_17 rfl rfl ?_
      refine zm_getR fg_Table_11 d_Table_discard_18 zs_Table rfl ?_
      refine zq_aload_n d_Table_discard_21 rfl rfl ?_
      refine zm_getI fg_Table_71 d_Table_discard_22 zs_Table rfl ?_
      obtain ⟨hb3, hJ⟩ := hJ
      refine zm_pld d_Table_discard_25 hb3 ?_
      refine zr_topr (fun y4 hy4 => ?_)
      have hJ := hJ y4 hy4
      refine zr_astore_n (L' := [some (.ref 0), some (.int a1), some (.int a2), some (.ref y4), none]) d_Table_discard_26 rfl (Nat.le_of_ble_eq_true rfl) rfl ?_
      refine zq_aload_n d_Table_discard_27 rfl rfl ?_
      refine zm_getR fg_Table_52 d_Table_discard_28 (hy4.symm ▸ (zm_pl_of hb3) : zm_pl y4).s rfl ?_
      refine zq_iload_n d_Table_discard_31 rfl rfl ?_
      obtain ⟨hb, hJ⟩ := hJ
      refine zm_ald d_Table_discard_32 (zm_pl.c (hy4.symm ▸ (zm_pl_of hb3) : zm_pl y4)) hb ?_
      refine zq_if_eq (tgt := 51) d_Table_discard_33 (by decide) (fun c => ?_) (fun c => ?_)
      · have hJ := hJ.1 c
        refine zr_less (L' := [some (.ref 0), some (.int a1), some (.int a2), none, none]) ⟨rfl, ⟨rfl, ⟨rfl, trivial⟩⟩⟩ ?_
        exact s_Table_discard_L51    hJ
      · have hJ := hJ.2 c
        refine zq_aload_n d_Table_discard_36 rfl rfl ?_
        refine zm_getI fg_Table_74 d_Table_discard_37 (hy4.symm ▸ (zm_pl_of hb3) : zm_pl y4).s rfl ?_
        refine zq_if_eq (tgt := 53) d_Table_discard_40 (by decide) (fun c => ?_) (fun c => ?_)
        · have hJ := hJ.1 c
          refine zr_less (L' := [some (.ref 0), some (.int a1), some (.int a2), some (.ref y4), none]) ⟨rfl, ⟨rfl, ⟨rfl, ⟨rfl, trivial⟩⟩⟩⟩ ?_
          exact s_Table_discard_L53   (hy4.symm ▸ (zm_pl_of hb3) : zm_pl y4) hJ
        · have hJ := hJ.2 c
          refine zq_iload_n d_Table_discard_43 rfl rfl ?_
          refine zq_aload_n d_Table_discard_44 rfl rfl ?_
          refine zm_getI fg_Table_26 d_Table_discard_45 zs_Table rfl ?_
          refine zq_icmp_eq (tgt := 53) d_Table_discard_48 (by decide) (fun c => ?_) (fun c => ?_)
          · have hJ := hJ.1 c
            refine zr_less (L' := [some (.ref 0), some (.int a1), some (.int a2), some (.ref y4), none]) ⟨rfl, ⟨rfl, ⟨rfl, ⟨rfl, trivial⟩⟩⟩⟩ ?_
            exact s_Table_discard_L53   (hy4.symm ▸ (zm_pl_of hb3) : zm_pl y4) hJ
          · have hJ := hJ.2 c
            refine zr_less (L' := [some (.ref 0), some (.int a1), some (.int a2), none, none]) ⟨rfl, ⟨rfl, ⟨rfl, trivial⟩⟩⟩ ?_
            exact s_Table_discard_L51    hJ
    · have hJ := hJ.2 c
      refine zr_less (L' := [some (.ref 0), some (.int a1), some (.int a2), none, none]) ⟨rfl, ⟨rfl, ⟨rfl, trivial⟩⟩⟩ ?_
      exact s_Table_discard_L15    hJ
set_option maxHeartbeats 400000 in
theorem s_Table_quad_L23 {g : zk_T} {a1 : Int32} {K : Int32 → zm → Prop} {m : zm} (hJ : j_Table_quad_L23 a1  K  m) : zq_V (zk_g g) ("RiichiTable", prog_1_method_5_code, 3, (some .int), false, zq_rm 87 0 0) 0 0 23 [some (.ref 0), some (.int a1), none] [] (zm_hp m) (zm_QI K) := by
  unfold j_Table_quad_L23 at hJ
  refine zq_iconst (v := (-1)) d_Table_quad_23 zk_im1 ?_
  exact zq_iret d_Table_quad_24 rfl rfl (Nat.le_refl _) (Nat.le_refl _) ⟨_, _, rfl, rfl, hJ⟩
set_option maxHeartbeats 400000 in
theorem s_Table_quad_L64 {g : zk_T} {a1 : Int32} {K : Int32 → zm → Prop} {m : zm} (hJ : j_Table_quad_L64 a1  K  m) : zq_V (zk_g g) ("RiichiTable", prog_1_method_5_code, 3, (some .int), false, zq_rm 87 0 0) 0 0 64 [some (.ref 0), some (.int a1), none] [] (zm_hp m) (zm_QI K) := by
  unfold j_Table_quad_L64 at hJ
  refine zq_iconst (v := (-1)) d_Table_quad_64 zk_im1 ?_
  exact zq_iret d_Table_quad_65 rfl rfl (Nat.le_refl _) (Nat.le_refl _) ⟨_, _, rfl, rfl, hJ⟩
set_option maxHeartbeats 400000 in
theorem s_Table_quad_L115 {g : zk_T} {a1 : Int32} {K : Int32 → zm → Prop} {m : zm} (hJ : j_Table_quad_L115 a1  K  m) : zq_V (zk_g g) ("RiichiTable", prog_1_method_5_code, 3, (some .int), false, zq_rm 87 0 0) 0 0 115 [some (.ref 0), some (.int a1), none] [] (zm_hp m) (zm_QI K) := by
  unfold j_Table_quad_L115 at hJ
  refine zq_iconst (v := (-1)) d_Table_quad_115 zk_im1 ?_
  exact zq_iret d_Table_quad_116 rfl rfl (Nat.le_refl _) (Nat.le_refl _) ⟨_, _, rfl, rfl, hJ⟩
set_option maxHeartbeats 400000 in
theorem s_Table_quad_L153 {g : zk_T} {a1 : Int32} {K : Int32 → zm → Prop} {m : zm} (hJ : j_Table_quad_L153 a1  K  m) : zq_V (zk_g g) ("RiichiTable", prog_1_method_5_code, 3, (some .int), false, zq_rm 87 0 0) 0 0 153 [some (.ref 0), some (.int a1), none] [] (zm_hp m) (zm_QI K) := by
  unfold j_Table_quad_L153 at hJ
  refine zq_aload_n d_Table_quad_153 rfl rfl ?_
  refine zm_getI fg_Table_22 d_Table_quad_154 zs_Table rfl ?_
  exact zq_iret d_Table_quad_157 rfl rfl (Nat.le_refl _) (Nat.le_refl _) ⟨_, _, rfl, rfl, hJ⟩
set_option maxHeartbeats 400000 in
theorem s_Table_quad {g : zk_T} {a1 : Int32} {K : Int32 → zm → Prop} {m : zm} (hJ : j_Table_quad a1 m K) : zq_Mt (zk_g g) y_Table_quad 87 0 0 [.ref 0, .int a1] (zm_hp m) (zm_QI K) := by
  unfold j_Table_quad at hJ
  refine zq_meth (ini := false) rfl (fun h => by cases h) (Nat.le_of_ble_eq_true rfl) ?_
  refine zr_L (F := ("RiichiTable", prog_1_method_5_code, 3, (some .int), false, zq_rm 87 0 0)) (L' := [some (.ref 0), some (.int a1), none]) rfl ?_
  refine zq_aload_n d_Table_quad_0 rfl rfl ?_
  refine zm_getI fg_Table_22 d_Table_quad_1 zs_Table rfl ?_
  refine zq_iconst (v := 1) d_Table_quad_4 zk_i1 ?_
  refine zq_icmp_ne (tgt := 23) d_Table_quad_5 (by decide) (fun c => ?_) (fun c => ?_)
  · have hJ := hJ.1 c
    refine zr_less (L' := [some (.ref 0), some (.int a1), none]) ⟨rfl, ⟨rfl, trivial⟩⟩ ?_
    exact s_Table_quad_L23    hJ
  · have hJ := hJ.2 c
    refine zq_iload_n d_Table_quad_8 rfl rfl ?_
    refine zr_csI (as := [.int a1]) (st := []) d_Table_quad_9 cc_Table_67 cs_Table_isKind (s_Table_isKind  hJ) rfl ⟨Nat.le_of_ble_eq_true rfl, Nat.le_of_ble_eq_true rfl⟩ (Nat.le_of_ble_eq_true rfl) ⟨Nat.le_refl _, Nat.le_refl _⟩ rfl (fun r2 m1 hJ => ?_)
    refine zq_if_eq (tgt := 23) d_Table_quad_12 (by decide) (fun c => ?_) (fun c => ?_)
    · have hJ := hJ.1 c
      refine zr_less (L' := [some (.ref 0), some (.int a1), none]) ⟨rfl, ⟨rfl, trivial⟩⟩ ?_
      exact s_Table_quad_L23    hJ
    · have hJ := hJ.2 c
      refine zq_aload_n d_Table_quad_15 rfl rfl ?_
      refine zm_getI fg_Table_26 d_Table_quad_16 zs_Table rfl ?_
      refine zq_iconst (v := (-1)) d_Table_quad_19 zk_im1 ?_
      refine zq_icmp_ne (tgt := 25) d_Table_quad_20 (by decide) (fun c => ?_) (fun c => ?_)
      · have hJ := hJ.1 c
        refine zq_aload_n d_Table_quad_25 rfl rfl ?_
        refine zm_getR fg_Table_11 d_Table_quad_26 zs_Table rfl ?_
        refine zq_aload_n d_Table_quad_29 rfl rfl ?_
        refine zm_getI fg_Table_71 d_Table_quad_30 zs_Table rfl ?_
        obtain ⟨hb3, hJ⟩ := hJ
        refine zm_pld d_Table_quad_33 hb3 ?_
        refine zr_topr (fun y4 hy4 => ?_)
        have hJ := hJ y4 hy4
        refine zr_astore_n (L' := [some (.ref 0), some (.int a1), some (.ref y4)]) d_Table_quad_34 rfl (Nat.le_of_ble_eq_true rfl) rfl ?_
        refine zq_aload_n d_Table_quad_35 rfl rfl ?_
        refine zm_getI fg_Table_74 d_Table_quad_36 (hy4.symm ▸ (zm_pl_of hb3) : zm_pl y4).s rfl ?_
        refine zq_if_ne (tgt := 64) d_Table_quad_39 (by decide) (fun c => ?_) (fun c => ?_)
        · have hJ := hJ.1 c
          refine zr_less (L' := [some (.ref 0), some (.int a1), none]) ⟨rfl, ⟨rfl, trivial⟩⟩ ?_
          exact s_Table_quad_L64    hJ
        · have hJ := hJ.2 c
          refine zq_aload_n d_Table_quad_42 rfl rfl ?_
          refine zm_getR fg_Table_34 d_Table_quad_43 zs_Table rfl ?_
          refine zm_getI fg_Table_103 d_Table_quad_46 zs_Wall rfl ?_
          refine zq_iconst (v := 4) d_Table_quad_49 zk_i4 ?_
          refine zq_icmp_ge (tgt := 64) d_Table_quad_50 (by decide) (fun c => ?_) (fun c => ?_)
          · have hJ := hJ.1 c
            refine zr_less (L' := [some (.ref 0), some (.int a1), none]) ⟨rfl, ⟨rfl, trivial⟩⟩ ?_
            exact s_Table_quad_L64    hJ
          · have hJ := hJ.2 c
            refine zq_aload_n d_Table_quad_53 rfl rfl ?_
            refine zm_getR fg_Table_34 d_Table_quad_54 zs_Table rfl ?_
            refine zr_cvI (q := 11) (as := []) (st := []) d_Table_quad_57 cc_Table_106 cv_Wall_countLeft zs_Wall (s_Wall_countLeft  hJ) rfl ⟨Nat.le_of_ble_eq_true rfl, Nat.le_of_ble_eq_true rfl⟩ (Nat.le_of_ble_eq_true rfl) ⟨Nat.le_refl _, Nat.le_refl _⟩ rfl (fun r6 m5 hJ => ?_)
            refine zq_iconst (v := 1) d_Table_quad_60 zk_i1 ?_
            refine zq_icmp_ge (tgt := 66) d_Table_quad_61 (by decide) (fun c => ?_) (fun c => ?_)
            · have hJ := hJ.1 c
              refine zq_aload_n d_Table_quad_66 rfl rfl ?_
              refine zm_getR fg_Table_52 d_Table_quad_67 (hy4.symm ▸ (zm_pl_of hb3) : zm_pl y4).s rfl ?_
              refine zq_iload_n d_Table_quad_70 rfl rfl ?_
              obtain ⟨hb, hJ⟩ := hJ
              refine zm_ald d_Table_quad_71 (zm_pl.c (hy4.symm ▸ (zm_pl_of hb3) : zm_pl y4)) hb ?_
              refine zq_iconst (v := 4) d_Table_quad_72 zk_i4 ?_
              refine zq_icmp_ne (tgt := 98) d_Table_quad_73 (by decide) (fun c => ?_) (fun c => ?_)
              · have hJ := hJ.1 c
                refine zq_aload_n d_Table_quad_98 rfl rfl ?_
                refine zm_getR fg_Table_52 d_Table_quad_99 (hy4.symm ▸ (zm_pl_of hb3) : zm_pl y4).s rfl ?_
                refine zq_iload_n d_Table_quad_102 rfl rfl ?_
                obtain ⟨hb, hJ⟩ := hJ
                refine zm_ald d_Table_quad_103 (zm_pl.c (hy4.symm ▸ (zm_pl_of hb3) : zm_pl y4)) hb ?_
                refine zq_if_eq (tgt := 115) d_Table_quad_104 (by decide) (fun c => ?_) (fun c => ?_)
                · have hJ := hJ.1 c
                  refine zr_less (L' := [some (.ref 0), some (.int a1), none]) ⟨rfl, ⟨rfl, trivial⟩⟩ ?_
                  exact s_Table_quad_L115    hJ
                · have hJ := hJ.2 c
                  refine zq_aload_n d_Table_quad_107 rfl rfl ?_
                  refine zq_iload_n d_Table_quad_108 rfl rfl ?_
                  refine zr_cvI (q := y4) (as := [.int a1]) (st := []) d_Table_quad_109 cc_Table_117 cv_Player_hasOpenTriplet (hy4.symm ▸ (zm_pl_of hb3) : zm_pl y4).s (s_Player_hasOpenTriplet (hy4.symm ▸ (zm_pl_of hb3) : zm_pl y4) hJ) rfl ⟨Nat.le_of_ble_eq_true rfl, Nat.le_of_ble_eq_true rfl⟩ (Nat.le_of_ble_eq_true rfl) ⟨Nat.le_refl _, Nat.le_refl _⟩ rfl (fun r8 m7 hJ => ?_)
                  refine zq_if_ne (tgt := 117) d_Table_quad_112 (by decide) (fun c => ?_) (fun c => ?_)
                  · have hJ := hJ.1 c
                    refine zq_aload_n d_Table_quad_117 rfl rfl ?_
                    refine zm_getR fg_Table_52 d_Table_quad_118 (hy4.symm ▸ (zm_pl_of hb3) : zm_pl y4).s rfl ?_
                    refine zq_iload_n d_Table_quad_121 rfl rfl ?_
                    refine zq_dup2 d_Table_quad_122 rfl rfl ?_
                    obtain ⟨hb, hJ⟩ := hJ
                    refine zm_ald d_Table_quad_123 (zm_pl.c (hy4.symm ▸ (zm_pl_of hb3) : zm_pl y4)) hb ?_
                    refine zq_iconst (v := 1) d_Table_quad_124 zk_i1 ?_
                    refine zq_isub d_Table_quad_125 ?_
                    obtain ⟨hb, hJ⟩ := hJ
                    refine zr_ast d_Table_quad_126 (zm_pl.c (hy4.symm ▸ (zm_pl_of hb3) : zm_pl y4)) hb (fun m9 hm9 => ?_)
                    have hJ := hJ m9 hm9
                    refine zq_aload_n d_Table_quad_127 rfl rfl ?_
                    refine zq_iload_n d_Table_quad_128 rfl rfl ?_
                    refine zr_putI fl_Table_26 d_Table_quad_129 zs_Table rfl rfl (fun m10 hm10 => ?_)
                    have hJ := hJ m10 hm10
                    refine zq_aload_n d_Table_quad_132 rfl rfl ?_
                    refine zq_iconst (v := 1) d_Table_quad_133 zk_i1 ?_
                    refine zr_putZ fl_Table_93 d_Table_quad_134 zs_Table rfl rfl (Or.inr rfl) (fun m11 hm11 => ?_)
                    have hJ := hJ m11 hm11
                    refine zq_aload_n d_Table_quad_137 rfl rfl ?_
                    refine zq_iconst (v := 2) d_Table_quad_138 zk_i2 ?_
                    refine zr_putI fl_Table_22 d_Table_quad_139 zs_Table rfl rfl (fun m12 hm12 => ?_)
                    have hJ := hJ m12 hm12
                    refine zq_aload_n d_Table_quad_142 rfl rfl ?_
                    refine zr_cvI (q := 0) (as := []) (st := []) d_Table_quad_143 cc_Table_96 cv_Table_offerClaims zs_Table (s_Table_offerClaims  hJ) rfl ⟨Nat.le_of_ble_eq_true rfl, Nat.le_of_ble_eq_true rfl⟩ (Nat.le_of_ble_eq_true rfl) ⟨Nat.le_refl _, Nat.le_refl _⟩ rfl (fun r14 m13 hJ => ?_)
                    refine zq_if_ne (tgt := 153) d_Table_quad_146 (by decide) (fun c => ?_) (fun c => ?_)
                    · have hJ := hJ.1 c
                      refine zr_less (L' := [some (.ref 0), some (.int a1), none]) ⟨rfl, ⟨rfl, trivial⟩⟩ ?_
                      exact s_Table_quad_L153    hJ
                    · have hJ := hJ.2 c
                      refine zq_aload_n d_Table_quad_149 rfl rfl ?_
                      refine zr_cvV (q := 0) (as := []) (st := []) d_Table_quad_150 cc_Table_120 cv_Table_completeAddedQuad zs_Table (s_Table_completeAddedQuad  hJ) rfl ⟨Nat.le_of_ble_eq_true rfl, Nat.le_of_ble_eq_true rfl⟩ (Nat.le_of_ble_eq_true rfl) ⟨Nat.le_refl _, Nat.le_refl _⟩ rfl (fun m15 hJ => ?_)
                      refine zr_less (L' := [some (.ref 0), some (.int a1), none]) ⟨rfl, ⟨rfl, trivial⟩⟩ ?_
                      exact s_Table_quad_L153    hJ
                  · have hJ := hJ.2 c
                    refine zr_less (L' := [some (.ref 0), some (.int a1), none]) ⟨rfl, ⟨rfl, trivial⟩⟩ ?_
                    exact s_Table_quad_L115    hJ
              · have hJ := hJ.2 c
                refine zq_aload_n d_Table_quad_76 rfl rfl ?_
                refine zm_getR fg_Table_52 d_Table_quad_77 (hy4.symm ▸ (zm_pl_of hb3) : zm_pl y4).s rfl ?_
                refine zq_iload_n d_Table_quad_80 rfl rfl ?_
                refine zq_iconst (v := 0) d_Table_quad_81 zk_i0 ?_
                obtain ⟨hb, hJ⟩ := hJ
                refine zr_ast d_Table_quad_82 (zm_pl.c (hy4.symm ▸ (zm_pl_of hb3) : zm_pl y4)) hb (fun m16 hm16 => ?_)
                have hJ := hJ m16 hm16
                refine zq_aload_n d_Table_quad_83 rfl rfl ?_
                refine zq_iload_n d_Table_quad_84 rfl rfl ?_
                refine zq_iconst (v := 3) d_Table_quad_85 zk_i3 ?_
                refine zr_cvV (q := y4) (as := [.int a1, .int 3]) (st := []) d_Table_quad_86 cc_Table_110 cv_Player_addMeld (hy4.symm ▸ (zm_pl_of hb3) : zm_pl y4).s (s_Player_addMeld (hy4.symm ▸ (zm_pl_of hb3) : zm_pl y4) hJ) rfl ⟨Nat.le_of_ble_eq_true rfl, Nat.le_of_ble_eq_true rfl⟩ (Nat.le_of_ble_eq_true rfl) ⟨Nat.le_refl _, Nat.le_refl _⟩ rfl (fun m17 hJ => ?_)
                refine zq_aload_n d_Table_quad_89 rfl rfl ?_
                refine zr_cvV (q := 0) (as := []) (st := []) d_Table_quad_90 cc_Table_114 cv_Table_completeQuad zs_Table (s_Table_completeQuad  hJ) rfl ⟨Nat.le_of_ble_eq_true rfl, Nat.le_of_ble_eq_true rfl⟩ (Nat.le_of_ble_eq_true rfl) ⟨Nat.le_refl _, Nat.le_refl _⟩ rfl (fun m18 hJ => ?_)
                refine zq_aload_n d_Table_quad_93 rfl rfl ?_
                refine zm_getI fg_Table_22 d_Table_quad_94 zs_Table rfl ?_
                exact zq_iret d_Table_quad_97 rfl rfl (Nat.le_refl _) (Nat.le_refl _) ⟨_, _, rfl, rfl, hJ⟩
            · have hJ := hJ.2 c
              refine zr_less (L' := [some (.ref 0), some (.int a1), none]) ⟨rfl, ⟨rfl, trivial⟩⟩ ?_
              exact s_Table_quad_L64    hJ
      · have hJ := hJ.2 c
        refine zr_less (L' := [some (.ref 0), some (.int a1), none]) ⟨rfl, ⟨rfl, trivial⟩⟩ ?_
        exact s_Table_quad_L23    hJ
