set_option maxHeartbeats 400000 in
theorem s_Model_worthy_L114 {g : zk_T} {a1 : Int32} {a2 : Int32} {a3 : Int32} {a4 : Int32} {R79 : Int32 → Int32 → zm → Prop} {K : Int32 → zm → Prop} (hR79 : ∀ {x5 : Int32} {x6 : Int32} {m : zm}, R79 x5 x6 m → zq_V (zk_g g) ("RiichiTableModel", prog_9_method_46_code, 9, (some .boolean), false, zq_rm 4 0 0) 0 0 79 [some (.ref 33), some (.int a1), some (.int a2), some (.int a3), some (.int a4), some (.int x5), some (.int x6), none, none] [] (zm_hp m) (zm_QI K)) {x5 : Int32} {x6 : Int32} {t0 : Int32} {t1 : Int32} {t2 : Int32} {m : zm} (hJ : j_Model_worthy_L114 a1 a2 a3 a4 R79 K x5 x6 t0 t1 t2 m) : zq_V (zk_g g) ("RiichiTableModel", prog_9_method_46_code, 9, (some .boolean), false, zq_rm 4 0 0) 0 0 114 [some (.ref 33), some (.int a1), some (.int a2), some (.int a3), some (.int a4), some (.int x5), some (.int x6), none, none] [.int t0, .int t1, .int t2, .ref 51] (zm_hp m) (zm_QI K) := by
  unfold j_Model_worthy_L114 at hJ
  refine zq_iadd d_Model_worthy_114 ?_
  obtain ⟨hb, hJ⟩ := hJ
  refine zr_ast d_Model_worthy_115 (rfl : zm_sh[51]? = some (.inl (0, 34, .inl (fun _ => 0)))) hb (fun m24 hm24 => ?_)
  have hJ := hJ m24 hm24
  refine zr_iinc (d' := 1) d_Model_worthy_116 zk_i1 rfl (Nat.le_of_ble_eq_true rfl) (fun y25 hy25 => ?_)
  have hJ := hJ y25 hy25
  refine zr_L (L' := [some (.ref 33), some (.int a1), some (.int a2), some (.int a3), some (.int a4), some (.int x5), some (.int y25), none, none]) rfl ?_
  refine zq_goto (tgt := 79) d_Model_worthy_119 (by decide) ?_
  refine zr_less (L' := [some (.ref 33), some (.int a1), some (.int a2), some (.int a3), some (.int a4), some (.int x5), some (.int y25), none, none]) ⟨rfl, ⟨rfl, ⟨rfl, ⟨rfl, ⟨rfl, ⟨rfl, ⟨rfl, trivial⟩⟩⟩⟩⟩⟩⟩ ?_
  exact hR79  hJ
set_option maxHeartbeats 400000 in
theorem s_Model_worthy_L113 {g : zk_T} {a1 : Int32} {a2 : Int32} {a3 : Int32} {a4 : Int32} {R79 : Int32 → Int32 → zm → Prop} {K : Int32 → zm → Prop} (hR79 : ∀ {x5 : Int32} {x6 : Int32} {m : zm}, R79 x5 x6 m → zq_V (zk_g g) ("RiichiTableModel", prog_9_method_46_code, 9, (some .boolean), false, zq_rm 4 0 0) 0 0 79 [some (.ref 33), some (.int a1), some (.int a2), some (.int a3), some (.int a4), some (.int x5), some (.int x6), none, none] [] (zm_hp m) (zm_QI K)) {x5 : Int32} {x6 : Int32} {t0 : Int32} {t1 : Int32} {m : zm} (hJ : j_Model_worthy_L113 a1 a2 a3 a4 R79 K x5 x6 t0 t1 m) : zq_V (zk_g g) ("RiichiTableModel", prog_9_method_46_code, 9, (some .boolean), false, zq_rm 4 0 0) 0 0 113 [some (.ref 33), some (.int a1), some (.int a2), some (.int a3), some (.int a4), some (.int x5), some (.int x6), none, none] [.int t0, .int t1, .ref 51] (zm_hp m) (zm_QI K) := by
  unfold j_Model_worthy_L113 at hJ
  refine zq_iconst (v := 0) d_Model_worthy_113 zk_i0 ?_
  refine zr_less (L' := [some (.ref 33), some (.int a1), some (.int a2), some (.int a3), some (.int a4), some (.int x5), some (.int x6), none, none]) ⟨rfl, ⟨rfl, ⟨rfl, ⟨rfl, ⟨rfl, ⟨rfl, ⟨rfl, trivial⟩⟩⟩⟩⟩⟩⟩ ?_
  exact s_Model_worthy_L114  hR79  hJ
set_option maxHeartbeats 400000 in
theorem s_Model_worthy_L243 {g : zk_T} {a1 : Int32} {a2 : Int32} {a3 : Int32} {a4 : Int32} {R190 : Int32 → Int64 → zm → Prop} {R202 : Int32 → Int64 → Int32 → zm → Prop} {K : Int32 → zm → Prop} (hR190 : ∀ {x5 : Int32} {x6 : Int64} {m : zm}, R190 x5 x6 m → zq_V (zk_g g) ("RiichiTableModel", prog_9_method_46_code, 9, (some .boolean), false, zq_rm 4 0 0) 0 0 190 [some (.ref 33), some (.int a1), some (.int a2), some (.int a3), some (.int a4), some (.int x5), some (.long x6), none, none] [] (zm_hp m) (zm_QI K)) (hR202 : ∀ {x5 : Int32} {x6 : Int64} {x8 : Int32} {m : zm}, R202 x5 x6 x8 m → zq_V (zk_g g) ("RiichiTableModel", prog_9_method_46_code, 9, (some .boolean), false, zq_rm 4 0 0) 0 0 202 [some (.ref 33), some (.int a1), some (.int a2), some (.int a3), some (.int a4), some (.int x5), some (.long x6), none, some (.int x8)] [] (zm_hp m) (zm_QI K)) {x5 : Int32} {x6 : Int64} {x8 : Int32} {m : zm} (hJ : j_Model_worthy_L243 a1 a2 a3 a4 R190 R202 K x5 x6 x8 m) : zq_V (zk_g g) ("RiichiTableModel", prog_9_method_46_code, 9, (some .boolean), false, zq_rm 4 0 0) 0 0 243 [some (.ref 33), some (.int a1), some (.int a2), some (.int a3), some (.int a4), some (.int x5), some (.long x6), none, some (.int x8)] [] (zm_hp m) (zm_QI K) := by
  unfold j_Model_worthy_L243 at hJ
  refine zr_iinc (d' := 1) d_Model_worthy_243 zk_i1 rfl (Nat.le_of_ble_eq_true rfl) (fun y35 hy35 => ?_)
  have hJ := hJ y35 hy35
  refine zr_L (L' := [some (.ref 33), some (.int a1), some (.int a2), some (.int a3), some (.int a4), some (.int x5), some (.long x6), none, some (.int y35)]) rfl ?_
  refine zq_goto (tgt := 202) d_Model_worthy_246 (by decide) ?_
  refine zr_less (L' := [some (.ref 33), some (.int a1), some (.int a2), some (.int a3), some (.int a4), some (.int x5), some (.long x6), none, some (.int y35)]) ⟨rfl, ⟨rfl, ⟨rfl, ⟨rfl, ⟨rfl, ⟨rfl, ⟨rfl, ⟨rfl, trivial⟩⟩⟩⟩⟩⟩⟩⟩ ?_
  exact hR202  hJ
set_option maxHeartbeats 400000 in
theorem s_Model_worthy_L249 {g : zk_T} {a1 : Int32} {a2 : Int32} {a3 : Int32} {a4 : Int32} {R190 : Int32 → Int64 → zm → Prop} {K : Int32 → zm → Prop} (hR190 : ∀ {x5 : Int32} {x6 : Int64} {m : zm}, R190 x5 x6 m → zq_V (zk_g g) ("RiichiTableModel", prog_9_method_46_code, 9, (some .boolean), false, zq_rm 4 0 0) 0 0 190 [some (.ref 33), some (.int a1), some (.int a2), some (.int a3), some (.int a4), some (.int x5), some (.long x6), none, none] [] (zm_hp m) (zm_QI K)) {x5 : Int32} {x6 : Int64} {m : zm} (hJ : j_Model_worthy_L249 a1 a2 a3 a4 R190 K x5 x6 m) : zq_V (zk_g g) ("RiichiTableModel", prog_9_method_46_code, 9, (some .boolean), false, zq_rm 4 0 0) 0 0 249 [some (.ref 33), some (.int a1), some (.int a2), some (.int a3), some (.int a4), some (.int x5), some (.long x6), none, none] [] (zm_hp m) (zm_QI K) := by
  unfold j_Model_worthy_L249 at hJ
  refine zq_aload_n d_Model_worthy_249 rfl rfl ?_
  refine zq_dup d_Model_worthy_250 rfl ?_
  refine zm_getI fg_Model_137 d_Model_worthy_251 zs_Model rfl ?_
  refine zq_iconst (v := 1) d_Model_worthy_254 zk_i1 ?_
  refine zq_iadd d_Model_worthy_255 ?_
  refine zr_putI fl_Model_137 d_Model_worthy_256 zs_Model rfl rfl (fun m36 hm36 => ?_)
  have hJ := hJ m36 hm36
  refine zq_goto (tgt := 190) d_Model_worthy_259 (by decide) ?_
  refine zr_less (L' := [some (.ref 33), some (.int a1), some (.int a2), some (.int a3), some (.int a4), some (.int x5), some (.long x6), none, none]) ⟨rfl, ⟨rfl, ⟨rfl, ⟨rfl, ⟨rfl, ⟨rfl, ⟨rfl, trivial⟩⟩⟩⟩⟩⟩⟩ ?_
  exact hR190  hJ
set_option maxHeartbeats 400000 in
theorem s_Model_worthy_L202 {g : zk_T} {a1 : Int32} {a2 : Int32} {a3 : Int32} {a4 : Int32} {R190 : Int32 → Int64 → zm → Prop} {K : Int32 → zm → Prop} (hR190 : ∀ {x5 : Int32} {x6 : Int64} {m : zm}, R190 x5 x6 m → zq_V (zk_g g) ("RiichiTableModel", prog_9_method_46_code, 9, (some .boolean), false, zq_rm 4 0 0) 0 0 190 [some (.ref 33), some (.int a1), some (.int a2), some (.int a3), some (.int a4), some (.int x5), some (.long x6), none, none] [] (zm_hp m) (zm_QI K)) : ∀ (n : Nat) {x5 : Int32} {x6 : Int64} {x8 : Int32} {m : zm}, j_Model_worthy_L202 a1 a2 a3 a4 R190 K n x5 x6 x8 m → zq_V (zk_g g) ("RiichiTableModel", prog_9_method_46_code, 9, (some .boolean), false, zq_rm 4 0 0) 0 0 202 [some (.ref 33), some (.int a1), some (.int a2), some (.int a3), some (.int a4), some (.int x5), some (.long x6), none, some (.int x8)] [] (zm_hp m) (zm_QI K) := by
  intro n
  induction n with
  | zero =>
    intro x5 x6 x8 m hJ
    exact False.elim hJ
  | succ n ih =>
    intro x5 x6 x8 m hJ
    rw [j_Model_worthy_L202] at hJ
    refine zq_aload_n d_Model_worthy_202 rfl rfl ?_
    refine zm_getR fg_Model_60 d_Model_worthy_203 zs_Model rfl ?_
    refine zq_aload_n d_Model_worthy_206 rfl rfl ?_
    refine zm_getI fg_Model_137 d_Model_worthy_207 zs_Model rfl ?_
    obtain ⟨hb, hJ⟩ := hJ
    refine zm_ald d_Model_worthy_210 (rfl : zm_sh[50]? = some (.inl (0, 34, .inl (fun _ => 0)))) hb ?_
    refine zq_iconst (v := 2) d_Model_worthy_211 zk_i2 ?_
    refine zq_icmp_lt (tgt := 249) d_Model_worthy_212 (by decide) (fun c => ?_) (fun c => ?_)
    · have hJ := hJ.1 c
      refine zr_less (L' := [some (.ref 33), some (.int a1), some (.int a2), some (.int a3), some (.int a4), some (.int x5), some (.long x6), none, none]) ⟨rfl, ⟨rfl, ⟨rfl, ⟨rfl, ⟨rfl, ⟨rfl, ⟨rfl, trivial⟩⟩⟩⟩⟩⟩⟩ ?_
      exact s_Model_worthy_L249  hR190  hJ
    · have hJ := hJ.2 c
      refine zq_iload d_Model_worthy_215 rfl ?_
      refine zq_iconst (v := 1) d_Model_worthy_217 zk_i1 ?_
      refine zq_aload_n d_Model_worthy_218 rfl rfl ?_
      refine zr_cvI (q := 33) (as := []) (st := [.int 1, .int x8]) d_Model_worthy_219 cc_Model_164 cv_Model_threes zs_Model (s_Model_threes  hJ) rfl ⟨Nat.le_of_ble_eq_true rfl, Nat.le_of_ble_eq_true rfl⟩ (Nat.le_of_ble_eq_true rfl) ⟨Nat.le_refl _, Nat.le_refl _⟩ rfl (fun r31 m30 hJ => ?_)
      refine zq_ishl d_Model_worthy_222 ?_
      refine zq_icmp_ge (tgt := 249) d_Model_worthy_223 (by decide) (fun c => ?_) (fun c => ?_)
      · have hJ := hJ.1 c
        refine zr_less (L' := [some (.ref 33), some (.int a1), some (.int a2), some (.int a3), some (.int a4), some (.int x5), some (.long x6), none, none]) ⟨rfl, ⟨rfl, ⟨rfl, ⟨rfl, ⟨rfl, ⟨rfl, ⟨rfl, trivial⟩⟩⟩⟩⟩⟩⟩ ?_
        exact s_Model_worthy_L249  hR190  hJ
      · have hJ := hJ.2 c
        refine zq_aload_n d_Model_worthy_226 rfl rfl ?_
        refine zq_iload d_Model_worthy_227 rfl ?_
        refine zq_iload d_Model_worthy_229 rfl ?_
        refine zr_cvI (q := 33) (as := [.int x8, .int x5]) (st := []) d_Model_worthy_231 cc_Model_167 cv_Model_apart zs_Model (s_Model_apart  hJ) rfl ⟨Nat.le_of_ble_eq_true rfl, Nat.le_of_ble_eq_true rfl⟩ (Nat.le_of_ble_eq_true rfl) ⟨Nat.le_refl _, Nat.le_refl _⟩ rfl (fun r33 m32 hJ => ?_)
        refine zq_if_eq (tgt := 243) d_Model_worthy_234 (by decide) (fun c => ?_) (fun c => ?_)
        · have hJ := hJ.1 c
          refine zr_less (L' := [some (.ref 33), some (.int a1), some (.int a2), some (.int a3), some (.int a4), some (.int x5), some (.long x6), none, some (.int x8)]) ⟨rfl, ⟨rfl, ⟨rfl, ⟨rfl, ⟨rfl, ⟨rfl, ⟨rfl, ⟨rfl, trivial⟩⟩⟩⟩⟩⟩⟩⟩ ?_
          exact s_Model_worthy_L243  hR190 ih  hJ
        · have hJ := hJ.2 c
          refine zq_aload_n d_Model_worthy_237 rfl rfl ?_
          refine zq_lload d_Model_worthy_238 rfl ?_
          refine zr_cvV (q := 33) (as := [.long x6]) (st := []) d_Model_worthy_240 cc_Model_295 cv_Model_judgeSets zs_Model (s_Model_judgeSets  hJ) rfl ⟨Nat.le_of_ble_eq_true rfl, Nat.le_of_ble_eq_true rfl⟩ (Nat.le_of_ble_eq_true rfl) ⟨Nat.le_refl _, Nat.le_refl _⟩ rfl (fun m34 hJ => ?_)
          refine zr_less (L' := [some (.ref 33), some (.int a1), some (.int a2), some (.int a3), some (.int a4), some (.int x5), some (.long x6), none, some (.int x8)]) ⟨rfl, ⟨rfl, ⟨rfl, ⟨rfl, ⟨rfl, ⟨rfl, ⟨rfl, ⟨rfl, trivial⟩⟩⟩⟩⟩⟩⟩⟩ ?_
          exact s_Model_worthy_L243  hR190 ih  hJ
set_option maxHeartbeats 400000 in
theorem s_Model_worthy_L276 {g : zk_T} {a1 : Int32} {a2 : Int32} {a3 : Int32} {a4 : Int32} {K : Int32 → zm → Prop} {t0 : Int32} {m : zm} (hJ : j_Model_worthy_L276 a1 a2 a3 a4  K t0 m) : zq_V (zk_g g) ("RiichiTableModel", prog_9_method_46_code, 9, (some .boolean), false, zq_rm 4 0 0) 0 0 276 [some (.ref 33), some (.int a1), some (.int a2), some (.int a3), some (.int a4), none, none, none, none] [.int t0] (zm_hp m) (zm_QI K) := by
  unfold j_Model_worthy_L276 at hJ
  exact zq_iret d_Model_worthy_276 rfl hJ.1.nar (Nat.le_refl _) (Nat.le_refl _) ⟨_, _, rfl, rfl, hJ.2⟩
set_option maxHeartbeats 400000 in
theorem s_Model_worthy_L190 {g : zk_T} {a1 : Int32} {a2 : Int32} {a3 : Int32} {a4 : Int32} {K : Int32 → zm → Prop} : ∀ (n : Nat) {x5 : Int32} {x6 : Int64} {m : zm}, j_Model_worthy_L190 a1 a2 a3 a4  K n x5 x6 m → zq_V (zk_g g) ("RiichiTableModel", prog_9_method_46_code, 9, (some .boolean), false, zq_rm 4 0 0) 0 0 190 [some (.ref 33), some (.int a1), some (.int a2), some (.int a3), some (.int a4), some (.int x5), some (.long x6), none, none] [] (zm_hp m) (zm_QI K) := by
  intro n
  induction n with
  | zero =>
    intro x5 x6 m hJ
    exact False.elim hJ
  | succ n ih =>
    intro x5 x6 m hJ
    rw [j_Model_worthy_L190] at hJ
    refine zq_aload_n d_Model_worthy_190 rfl rfl ?_
    refine zm_getI fg_Model_137 d_Model_worthy_191 zs_Model rfl ?_
    refine zq_bipush (v := 34) d_Model_worthy_194 zk_b34 ?_
    refine zq_icmp_ge (tgt := 262) d_Model_worthy_196 (by decide) (fun c => ?_) (fun c => ?_)
    · have hJ := hJ.1 c
      refine zq_aload_n d_Model_worthy_262 rfl rfl ?_
      refine zm_getL fg_Model_266 d_Model_worthy_263 zs_Model rfl ?_
      refine zq_lconst (v := 0) d_Model_worthy_266 zk_l0 ?_
      refine zq_lcmp d_Model_worthy_267 ?_
      refine zq_if_eq (tgt := 275) d_Model_worthy_268 (by decide) (fun c => ?_) (fun c => ?_)
      · have hJ := hJ.1 c
        refine zq_iconst (v := 0) d_Model_worthy_275 zk_i0 ?_
        refine zr_less (L' := [some (.ref 33), some (.int a1), some (.int a2), some (.int a3), some (.int a4), none, none, none, none]) ⟨rfl, ⟨rfl, ⟨rfl, ⟨rfl, ⟨rfl, trivial⟩⟩⟩⟩⟩ ?_
        exact s_Model_worthy_L276    hJ
      · have hJ := hJ.2 c
        refine zq_iconst (v := 1) d_Model_worthy_271 zk_i1 ?_
        refine zq_goto (tgt := 276) d_Model_worthy_272 (by decide) ?_
        refine zr_less (L' := [some (.ref 33), some (.int a1), some (.int a2), some (.int a3), some (.int a4), none, none, none, none]) ⟨rfl, ⟨rfl, ⟨rfl, ⟨rfl, ⟨rfl, trivial⟩⟩⟩⟩⟩ ?_
        exact s_Model_worthy_L276    hJ
    · have hJ := hJ.2 c
      refine zq_iconst (v := 0) d_Model_worthy_199 zk_i0 ?_
      refine zr_istore (L' := [some (.ref 33), some (.int a1), some (.int a2), some (.int a3), some (.int a4), some (.int x5), some (.long x6), none, some (.int 0)]) d_Model_worthy_200 (Nat.le_of_ble_eq_true rfl) rfl ?_
      refine zr_less (L' := [some (.ref 33), some (.int a1), some (.int a2), some (.int a3), some (.int a4), some (.int x5), some (.long x6), none, some (.int 0)]) ⟨rfl, ⟨rfl, ⟨rfl, ⟨rfl, ⟨rfl, ⟨rfl, ⟨rfl, ⟨rfl, trivial⟩⟩⟩⟩⟩⟩⟩⟩ ?_
      obtain ⟨n202, hJ⟩ := hJ
      exact s_Model_worthy_L202  ih n202  hJ
set_option maxHeartbeats 400000 in
theorem s_Model_worthy_L185 {g : zk_T} {a1 : Int32} {a2 : Int32} {a3 : Int32} {a4 : Int32} {K : Int32 → zm → Prop} {x5 : Int32} {x6 : Int64} {m : zm} (hJ : j_Model_worthy_L185 a1 a2 a3 a4  K x5 x6 m) : zq_V (zk_g g) ("RiichiTableModel", prog_9_method_46_code, 9, (some .boolean), false, zq_rm 4 0 0) 0 0 185 [some (.ref 33), some (.int a1), some (.int a2), some (.int a3), some (.int a4), some (.int x5), some (.long x6), none, none] [] (zm_hp m) (zm_QI K) := by
  unfold j_Model_worthy_L185 at hJ
  refine zq_aload_n d_Model_worthy_185 rfl rfl ?_
  refine zq_iconst (v := 0) d_Model_worthy_186 zk_i0 ?_
  refine zr_putI fl_Model_137 d_Model_worthy_187 zs_Model rfl rfl (fun m29 hm29 => ?_)
  have hJ := hJ m29 hm29
  refine zr_less (L' := [some (.ref 33), some (.int a1), some (.int a2), some (.int a3), some (.int a4), some (.int x5), some (.long x6), none, none]) ⟨rfl, ⟨rfl, ⟨rfl, ⟨rfl, ⟨rfl, ⟨rfl, ⟨rfl, trivial⟩⟩⟩⟩⟩⟩⟩ ?_
  obtain ⟨n190, hJ⟩ := hJ
  exact s_Model_worthy_L190   n190  hJ
set_option maxHeartbeats 400000 in
theorem s_Model_worthy_L160 {g : zk_T} {a1 : Int32} {a2 : Int32} {a3 : Int32} {a4 : Int32} {K : Int32 → zm → Prop} {x5 : Int32} {x6 : Int64} {m : zm} (hJ : j_Model_worthy_L160 a1 a2 a3 a4  K x5 x6 m) : zq_V (zk_g g) ("RiichiTableModel", prog_9_method_46_code, 9, (some .boolean), false, zq_rm 4 0 0) 0 0 160 [some (.ref 33), some (.int a1), some (.int a2), some (.int a3), some (.int a4), some (.int x5), some (.long x6), none, none] [] (zm_hp m) (zm_QI K) := by
  unfold j_Model_worthy_L160 at hJ
  refine zq_iload d_Model_worthy_160 rfl ?_
  refine zq_iconst (v := 4) d_Model_worthy_162 zk_i4 ?_
  refine zq_icmp_ne (tgt := 185) d_Model_worthy_163 (by decide) (fun c => ?_) (fun c => ?_)
  · have hJ := hJ.1 c
    refine zr_less (L' := [some (.ref 33), some (.int a1), some (.int a2), some (.int a3), some (.int a4), some (.int x5), some (.long x6), none, none]) ⟨rfl, ⟨rfl, ⟨rfl, ⟨rfl, ⟨rfl, ⟨rfl, ⟨rfl, trivial⟩⟩⟩⟩⟩⟩⟩ ?_
    exact s_Model_worthy_L185    hJ
  · have hJ := hJ.2 c
    refine zq_aload_n d_Model_worthy_166 rfl rfl ?_
    refine zr_cvI (q := 33) (as := []) (st := []) d_Model_worthy_167 cc_Model_157 cv_Model_isPairs zs_Model (s_Model_isPairs  hJ) rfl ⟨Nat.le_of_ble_eq_true rfl, Nat.le_of_ble_eq_true rfl⟩ (Nat.le_of_ble_eq_true rfl) ⟨Nat.le_refl _, Nat.le_refl _⟩ rfl (fun r27 m26 hJ => ?_)
    refine zq_if_eq (tgt := 185) d_Model_worthy_170 (by decide) (fun c => ?_) (fun c => ?_)
    · have hJ := hJ.1 c
      refine zr_less (L' := [some (.ref 33), some (.int a1), some (.int a2), some (.int a3), some (.int a4), some (.int x5), some (.long x6), none, none]) ⟨rfl, ⟨rfl, ⟨rfl, ⟨rfl, ⟨rfl, ⟨rfl, ⟨rfl, trivial⟩⟩⟩⟩⟩⟩⟩ ?_
      exact s_Model_worthy_L185    hJ
    · have hJ := hJ.2 c
      refine zq_aload_n d_Model_worthy_173 rfl rfl ?_
      refine zq_lload d_Model_worthy_174 rfl ?_
      refine zq_ldc2 (v := 67108864) (zq_in (zq_c5 (List.mem_of_getElem? (i := 119) rfl)) rfl) d_Model_worthy_176 ?_
      refine zq_lor d_Model_worthy_179 ?_
      refine zq_bipush (v := 25) d_Model_worthy_180 zk_b25 ?_
      refine zr_cvV (q := 33) (as := [.long (x6 ||| 67108864), .int 25]) (st := []) d_Model_worthy_182 cc_Model_281 cv_Model_judge zs_Model (s_Model_judge  hJ) rfl ⟨Nat.le_of_ble_eq_true rfl, Nat.le_of_ble_eq_true rfl⟩ (Nat.le_of_ble_eq_true rfl) ⟨Nat.le_refl _, Nat.le_refl _⟩ rfl (fun m28 hJ => ?_)
      refine zr_less (L' := [some (.ref 33), some (.int a1), some (.int a2), some (.int a3), some (.int a4), some (.int x5), some (.long x6), none, none]) ⟨rfl, ⟨rfl, ⟨rfl, ⟨rfl, ⟨rfl, ⟨rfl, ⟨rfl, trivial⟩⟩⟩⟩⟩⟩⟩ ?_
      exact s_Model_worthy_L185    hJ
set_option maxHeartbeats 400000 in
theorem s_Model_worthy_L79 {g : zk_T} {a1 : Int32} {a2 : Int32} {a3 : Int32} {a4 : Int32} {K : Int32 → zm → Prop} : ∀ (n : Nat) {x5 : Int32} {x6 : Int32} {m : zm}, j_Model_worthy_L79 a1 a2 a3 a4  K n x5 x6 m → zq_V (zk_g g) ("RiichiTableModel", prog_9_method_46_code, 9, (some .boolean), false, zq_rm 4 0 0) 0 0 79 [some (.ref 33), some (.int a1), some (.int a2), some (.int a3), some (.int a4), some (.int x5), some (.int x6), none, none] [] (zm_hp m) (zm_QI K) := by
  intro n
  induction n with
  | zero =>
    intro x5 x6 m hJ
    exact False.elim hJ
  | succ n ih =>
    intro x5 x6 m hJ
    rw [j_Model_worthy_L79] at hJ
    refine zq_iload d_Model_worthy_79 rfl ?_
    refine zq_bipush (v := 34) d_Model_worthy_81 zk_b34 ?_
    refine zq_icmp_ge (tgt := 122) d_Model_worthy_83 (by decide) (fun c => ?_) (fun c => ?_)
    · have hJ := hJ.1 c
      refine zq_aload_n d_Model_worthy_122 rfl rfl ?_
      refine zr_cvL (q := 33) (as := []) (st := []) d_Model_worthy_123 cc_Model_285 cv_Model_happened zs_Model (s_Model_happened  hJ) rfl ⟨Nat.le_of_ble_eq_true rfl, Nat.le_of_ble_eq_true rfl⟩ (Nat.le_of_ble_eq_true rfl) ⟨Nat.le_refl _, Nat.le_refl _⟩ rfl (fun r13 m12 hJ => ?_)
      refine zq_aload_n d_Model_worthy_126 rfl rfl ?_
      refine zr_cvL (q := 33) (as := []) (st := [.long r13]) d_Model_worthy_127 cc_Model_288 cv_Model_ofTiles zs_Model (s_Model_ofTiles  hJ) rfl ⟨Nat.le_of_ble_eq_true rfl, Nat.le_of_ble_eq_true rfl⟩ (Nat.le_of_ble_eq_true rfl) ⟨Nat.le_refl _, Nat.le_refl _⟩ rfl (fun r15 m14 hJ => ?_)
      refine zq_lor d_Model_worthy_130 ?_
      refine zr_topl (fun y16 hy16 => ?_)
      have hJ := hJ y16 hy16
      refine zr_lstore (L' := [some (.ref 33), some (.int a1), some (.int a2), some (.int a3), some (.int a4), some (.int x5), some (.long y16), none, none]) d_Model_worthy_131 (Nat.le_of_ble_eq_true rfl) rfl ?_
      refine zq_iload d_Model_worthy_133 rfl ?_
      refine zq_iconst (v := 4) d_Model_worthy_135 zk_i4 ?_
      refine zq_icmp_ne (tgt := 160) d_Model_worthy_136 (by decide) (fun c => ?_) (fun c => ?_)
      · have hJ := hJ.1 c
        refine zr_less (L' := [some (.ref 33), some (.int a1), some (.int a2), some (.int a3), some (.int a4), some (.int x5), some (.long y16), none, none]) ⟨rfl, ⟨rfl, ⟨rfl, ⟨rfl, ⟨rfl, ⟨rfl, ⟨rfl, trivial⟩⟩⟩⟩⟩⟩⟩ ?_
        exact s_Model_worthy_L160    hJ
      · have hJ := hJ.2 c
        refine zq_aload_n d_Model_worthy_139 rfl rfl ?_
        refine zr_cvI (q := 33) (as := []) (st := []) d_Model_worthy_140 cc_Model_161 cv_Model_isOrphans zs_Model (s_Model_isOrphans  hJ) rfl ⟨Nat.le_of_ble_eq_true rfl, Nat.le_of_ble_eq_true rfl⟩ (Nat.le_of_ble_eq_true rfl) ⟨Nat.le_refl _, Nat.le_refl _⟩ rfl (fun r18 m17 hJ => ?_)
        refine zq_if_eq (tgt := 160) d_Model_worthy_143 (by decide) (fun c => ?_) (fun c => ?_)
        · have hJ := hJ.1 c
          refine zr_less (L' := [some (.ref 33), some (.int a1), some (.int a2), some (.int a3), some (.int a4), some (.int x5), some (.long y16), none, none]) ⟨rfl, ⟨rfl, ⟨rfl, ⟨rfl, ⟨rfl, ⟨rfl, ⟨rfl, trivial⟩⟩⟩⟩⟩⟩⟩ ?_
          exact s_Model_worthy_L160    hJ
        · have hJ := hJ.2 c
          refine zq_aload_n d_Model_worthy_146 rfl rfl ?_
          refine zq_aload_n d_Model_worthy_147 rfl rfl ?_
          refine zr_cvL (q := 33) (as := []) (st := [.ref 33]) d_Model_worthy_148 cc_Model_285 cv_Model_happened zs_Model (s_Model_happened  hJ) rfl ⟨Nat.le_of_ble_eq_true rfl, Nat.le_of_ble_eq_true rfl⟩ (Nat.le_of_ble_eq_true rfl) ⟨Nat.le_refl _, Nat.le_refl _⟩ rfl (fun r20 m19 hJ => ?_)
          refine zq_ldc2 (v := 1073741824) (zq_in (zq_c5 (List.mem_of_getElem? (i := 98) rfl)) rfl) d_Model_worthy_151 ?_
          refine zq_lor d_Model_worthy_154 ?_
          refine zq_bipush (v := 30) d_Model_worthy_155 zk_b30 ?_
          refine zr_cvV (q := 33) (as := [.long (r20 ||| 1073741824), .int 30]) (st := []) d_Model_worthy_157 cc_Model_281 cv_Model_judge zs_Model (s_Model_judge  hJ) rfl ⟨Nat.le_of_ble_eq_true rfl, Nat.le_of_ble_eq_true rfl⟩ (Nat.le_of_ble_eq_true rfl) ⟨Nat.le_refl _, Nat.le_refl _⟩ rfl (fun m21 hJ => ?_)
          refine zr_less (L' := [some (.ref 33), some (.int a1), some (.int a2), some (.int a3), some (.int a4), some (.int x5), some (.long y16), none, none]) ⟨rfl, ⟨rfl, ⟨rfl, ⟨rfl, ⟨rfl, ⟨rfl, ⟨rfl, trivial⟩⟩⟩⟩⟩⟩⟩ ?_
          exact s_Model_worthy_L160    hJ
    · have hJ := hJ.2 c
      refine zq_aload_n d_Model_worthy_86 rfl rfl ?_
      refine zm_getR fg_Model_63 d_Model_worthy_87 zs_Model rfl ?_
      refine zq_iload d_Model_worthy_90 rfl ?_
      refine zq_aload_n d_Model_worthy_92 rfl rfl ?_
      refine zq_iload_n d_Model_worthy_93 rfl rfl ?_
      refine zq_iload d_Model_worthy_94 rfl ?_
      refine zr_cvI (q := 33) (as := [.int a1, .int x6]) (st := [.int x6, .ref 51]) d_Model_worthy_96 cc_Model_171 cv_Model_held zs_Model (s_Model_held  hJ) rfl ⟨Nat.le_of_ble_eq_true rfl, Nat.le_of_ble_eq_true rfl⟩ (Nat.le_of_ble_eq_true rfl) ⟨Nat.le_refl _, Nat.le_refl _⟩ rfl (fun r23 m22 hJ => ?_)
      refine zq_iload_n d_Model_worthy_99 rfl rfl ?_
      refine zq_if_ne (tgt := 113) d_Model_worthy_100 (by decide) (fun c => ?_) (fun c => ?_)
      · have hJ := hJ.1 c
        refine zr_less (L' := [some (.ref 33), some (.int a1), some (.int a2), some (.int a3), some (.int a4), some (.int x5), some (.int x6), none, none]) ⟨rfl, ⟨rfl, ⟨rfl, ⟨rfl, ⟨rfl, ⟨rfl, ⟨rfl, trivial⟩⟩⟩⟩⟩⟩⟩ ?_
        exact s_Model_worthy_L113  ih  hJ
      · have hJ := hJ.2 c
        refine zq_iload d_Model_worthy_103 rfl ?_
        refine zq_iload_n d_Model_worthy_105 rfl rfl ?_
        refine zq_icmp_ne (tgt := 113) d_Model_worthy_106 (by decide) (fun c => ?_) (fun c => ?_)
        · have hJ := hJ.1 c
          refine zr_less (L' := [some (.ref 33), some (.int a1), some (.int a2), some (.int a3), some (.int a4), some (.int x5), some (.int x6), none, none]) ⟨rfl, ⟨rfl, ⟨rfl, ⟨rfl, ⟨rfl, ⟨rfl, ⟨rfl, trivial⟩⟩⟩⟩⟩⟩⟩ ?_
          exact s_Model_worthy_L113  ih  hJ
        · have hJ := hJ.2 c
          refine zq_iconst (v := 1) d_Model_worthy_109 zk_i1 ?_
          refine zq_goto (tgt := 114) d_Model_worthy_110 (by decide) ?_
          refine zr_less (L' := [some (.ref 33), some (.int a1), some (.int a2), some (.int a3), some (.int a4), some (.int x5), some (.int x6), none, none]) ⟨rfl, ⟨rfl, ⟨rfl, ⟨rfl, ⟨rfl, ⟨rfl, ⟨rfl, trivial⟩⟩⟩⟩⟩⟩⟩ ?_
          exact s_Model_worthy_L114  ih  hJ
set_option maxHeartbeats 400000 in
theorem s_Model_worthy_L62 {g : zk_T} {a1 : Int32} {a2 : Int32} {a3 : Int32} {a4 : Int32} {K : Int32 → zm → Prop} {x5 : Int32} {t0 : Int32} {t1 : Int32} {m : zm} (hJ : j_Model_worthy_L62 a1 a2 a3 a4  K x5 t0 t1 m) : zq_V (zk_g g) ("RiichiTableModel", prog_9_method_46_code, 9, (some .boolean), false, zq_rm 4 0 0) 0 0 62 [some (.ref 33), some (.int a1), some (.int a2), some (.int a3), some (.int a4), some (.int x5), none, none, none] [.int t0, .int t1, .ref 33] (zm_hp m) (zm_QI K) := by
  unfold j_Model_worthy_L62 at hJ
  refine zr_cvI (q := 33) (as := [.int t1, .int t0]) (st := []) d_Model_worthy_62 cc_Model_153 cv_Model_load zs_Model (s_Model_load  hJ) rfl ⟨Nat.le_of_ble_eq_true rfl, Nat.le_of_ble_eq_true rfl⟩ (Nat.le_of_ble_eq_true rfl) ⟨Nat.le_refl _, Nat.le_refl _⟩ rfl (fun r11 m10 hJ => ?_)
  refine zq_iconst (v := 3) d_Model_worthy_65 zk_i3 ?_
  refine zq_iload d_Model_worthy_66 rfl ?_
  refine zq_imul d_Model_worthy_68 ?_
  refine zq_iconst (v := 2) d_Model_worthy_69 zk_i2 ?_
  refine zq_iadd d_Model_worthy_70 ?_
  refine zq_icmp_eq (tgt := 76) d_Model_worthy_71 (by decide) (fun c => ?_) (fun c => ?_)
  · have hJ := hJ.1 c
    refine zq_iconst (v := 0) d_Model_worthy_76 zk_i0 ?_
    refine zr_istore (L' := [some (.ref 33), some (.int a1), some (.int a2), some (.int a3), some (.int a4), some (.int x5), some (.int 0), none, none]) d_Model_worthy_77 (Nat.le_of_ble_eq_true rfl) rfl ?_
    refine zr_less (L' := [some (.ref 33), some (.int a1), some (.int a2), some (.int a3), some (.int a4), some (.int x5), some (.int 0), none, none]) ⟨rfl, ⟨rfl, ⟨rfl, ⟨rfl, ⟨rfl, ⟨rfl, ⟨rfl, trivial⟩⟩⟩⟩⟩⟩⟩ ?_
    obtain ⟨n79, hJ⟩ := hJ
    exact s_Model_worthy_L79   n79  hJ
  · have hJ := hJ.2 c
    refine zq_iconst (v := 0) d_Model_worthy_74 zk_i0 ?_
    exact zq_iret d_Model_worthy_75 rfl (zm_isB.nar (Or.inl rfl)) (Nat.le_refl _) (Nat.le_refl _) ⟨_, _, rfl, rfl, hJ⟩
set_option maxHeartbeats 400000 in
theorem s_Model_worthy {g : zk_T} {a1 : Int32} {a2 : Int32} {a3 : Int32} {a4 : Int32} {K : Int32 → zm → Prop} {m : zm} (hJ : j_Model_worthy a1 a2 a3 a4 m K) : zq_Mt (zk_g g) y_Model_worthy 4 0 0 [.ref 33, .int a1, .int a2, .int a3, .int a4] (zm_hp m) (zm_QI K) := by
  unfold j_Model_worthy at hJ
  refine zq_meth (ini := false) rfl (fun h => by cases h) (Nat.le_of_ble_eq_true rfl) ?_
  refine zr_L (F := ("RiichiTableModel", prog_9_method_46_code, 9, (some .boolean), false, zq_rm 4 0 0)) (L' := [some (.ref 33), some (.int a1), some (.int a2), some (.int a3), some (.int a4), none, none, none, none]) rfl ?_
  refine zq_aload_n d_Model_worthy_0 rfl rfl ?_
  refine zq_iload_n d_Model_worthy_1 rfl rfl ?_
  refine zr_putI fl_Model_184 d_Model_worthy_2 zs_Model rfl rfl (fun m1 hm1 => ?_)
  have hJ := hJ m1 hm1
  refine zq_aload_n d_Model_worthy_5 rfl rfl ?_
  refine zq_iload_n d_Model_worthy_6 rfl rfl ?_
  refine zr_putI fl_Model_222 d_Model_worthy_7 zs_Model rfl rfl (fun m2 hm2 => ?_)
  have hJ := hJ m2 hm2
  refine zq_aload_n d_Model_worthy_10 rfl rfl ?_
  refine zq_iload_n d_Model_worthy_11 rfl rfl ?_
  obtain ⟨hb, hJ⟩ := hJ
  refine zr_putZ fl_Model_191 d_Model_worthy_12 zs_Model rfl rfl hb (fun m3 hm3 => ?_)
  have hJ := hJ m3 hm3
  refine zq_aload_n d_Model_worthy_15 rfl rfl ?_
  refine zq_iload d_Model_worthy_16 rfl ?_
  obtain ⟨hb, hJ⟩ := hJ
  refine zr_putZ fl_Model_197 d_Model_worthy_18 zs_Model rfl rfl hb (fun m4 hm4 => ?_)
  have hJ := hJ m4 hm4
  refine zq_aload_n d_Model_worthy_21 rfl rfl ?_
  refine zq_iconst (v := 0) d_Model_worthy_22 zk_i0 ?_
  refine zr_putI fl_Model_260 d_Model_worthy_23 zs_Model rfl rfl (fun m5 hm5 => ?_)
  have hJ := hJ m5 hm5
  refine zq_aload_n d_Model_worthy_26 rfl rfl ?_
  refine zq_iconst (v := 0) d_Model_worthy_27 zk_i0 ?_
  refine zr_putI fl_Model_263 d_Model_worthy_28 zs_Model rfl rfl (fun m6 hm6 => ?_)
  have hJ := hJ m6 hm6
  refine zq_aload_n d_Model_worthy_31 rfl rfl ?_
  refine zq_iconst (v := 0) d_Model_worthy_32 zk_i0 ?_
  refine zr_putI fl_Model_257 d_Model_worthy_33 zs_Model rfl rfl (fun m7 hm7 => ?_)
  have hJ := hJ m7 hm7
  refine zq_aload_n d_Model_worthy_36 rfl rfl ?_
  refine zq_lconst (v := 0) d_Model_worthy_37 zk_l0 ?_
  refine zr_putL fl_Model_266 d_Model_worthy_38 zs_Model rfl rfl (fun m8 hm8 => ?_)
  have hJ := hJ m8 hm8
  refine zq_iconst (v := 4) d_Model_worthy_41 zk_i4 ?_
  refine zq_aload_n d_Model_worthy_42 rfl rfl ?_
  refine zm_getR fg_Model_19 d_Model_worthy_43 zs_Model rfl ?_
  refine zq_iload_n d_Model_worthy_46 rfl rfl ?_
  obtain ⟨hb, hJ⟩ := hJ
  refine zm_ald d_Model_worthy_47 (rfl : zm_sh[37]? = some (.inl (0, 4, .inl (fun _ => 0)))) hb ?_
  refine zq_isub d_Model_worthy_48 ?_
  refine zr_topi (fun y9 hy9 => ?_)
  have hJ := hJ y9 hy9
  refine zr_istore (L' := [some (.ref 33), some (.int a1), some (.int a2), some (.int a3), some (.int a4), some (.int y9), none, none, none]) d_Model_worthy_49 (Nat.le_of_ble_eq_true rfl) rfl ?_
  refine zq_aload_n d_Model_worthy_51 rfl rfl ?_
  refine zq_iload_n d_Model_worthy_52 rfl rfl ?_
  refine zq_iload_n d_Model_worthy_53 rfl rfl ?_
  refine zq_if_eq (tgt := 61) d_Model_worthy_54 (by decide) (fun c => ?_) (fun c => ?_)
  · have hJ := hJ.1 c
    refine zq_iload_n d_Model_worthy_61 rfl rfl ?_
    refine zr_less (L' := [some (.ref 33), some (.int a1), some (.int a2), some (.int a3), some (.int a4), some (.int y9), none, none, none]) ⟨rfl, ⟨rfl, ⟨rfl, ⟨rfl, ⟨rfl, ⟨rfl, trivial⟩⟩⟩⟩⟩⟩ ?_
    exact s_Model_worthy_L62    hJ
  · have hJ := hJ.2 c
    refine zq_iconst (v := (-1)) d_Model_worthy_57 zk_im1 ?_
    refine zq_goto (tgt := 62) d_Model_worthy_58 (by decide) ?_
    refine zr_less (L' := [some (.ref 33), some (.int a1), some (.int a2), some (.int a3), some (.int a4), some (.int y9), none, none, none]) ⟨rfl, ⟨rfl, ⟨rfl, ⟨rfl, ⟨rfl, ⟨rfl, trivial⟩⟩⟩⟩⟩⟩ ?_
    exact s_Model_worthy_L62    hJ
set_option maxHeartbeats 400000 in
theorem s_Model_isTurn_L13 {g : zk_T} {K : Int32 → zm → Prop} {t0 : Int32} {m : zm} (hJ : j_Model_isTurn_L13   K t0 m) : zq_V (zk_g g) ("RiichiTableModel", prog_9_method_47_code, 1, (some .boolean), false, zq_rm 0 0 0) 0 0 13 [some (.ref 33)] [.int t0] (zm_hp m) (zm_QI K) := by
  unfold j_Model_isTurn_L13 at hJ
  exact zq_iret d_Model_isTurn_13 rfl hJ.1.nar (Nat.le_refl _) (Nat.le_refl _) ⟨_, _, rfl, rfl, hJ.2⟩
set_option maxHeartbeats 400000 in
theorem s_Model_isTurn {g : zk_T} {K : Int32 → zm → Prop} {m : zm} (hJ : j_Model_isTurn  m K) : zq_Mt (zk_g g) y_Model_isTurn 0 0 0 [.ref 33] (zm_hp m) (zm_QI K) := by
  unfold j_Model_isTurn at hJ
  refine zq_meth (ini := false) rfl (fun h => by cases h) (Nat.le_of_ble_eq_true rfl) ?_
  refine zr_L (F := ("RiichiTableModel", prog_9_method_47_code, 1, (some .boolean), false, zq_rm 0 0 0)) (L' := [some (.ref 33)]) rfl ?_
  refine zq_aload_n d_Model_isTurn_0 rfl rfl ?_
  refine zm_getI fg_Model_90 d_Model_isTurn_1 zs_Model rfl ?_
  refine zq_iconst (v := 1) d_Model_isTurn_4 zk_i1 ?_
  refine zq_icmp_ne (tgt := 12) d_Model_isTurn_5 (by decide) (fun c => ?_) (fun c => ?_)
  · have hJ := hJ.1 c
    refine zq_iconst (v := 0) d_Model_isTurn_12 zk_i0 ?_
    refine zr_less (L' := [some (.ref 33)]) ⟨rfl, trivial⟩ ?_
    exact s_Model_isTurn_L13    hJ
  · have hJ := hJ.2 c
    refine zq_iconst (v := 1) d_Model_isTurn_8 zk_i1 ?_
    refine zq_goto (tgt := 13) d_Model_isTurn_9 (by decide) ?_
    refine zr_less (L' := [some (.ref 33)]) ⟨rfl, trivial⟩ ?_
    exact s_Model_isTurn_L13    hJ
set_option maxHeartbeats 400000 in
theorem s_Model_canRun_L80 {g : zk_T} {a1 : Int32} {a2 : Int32} {a3 : Int32} {R41 : Int32 → Int32 → zm → Prop} {K : Int32 → zm → Prop} (hR41 : ∀ {x4 : Int32} {x5 : Int32} {m : zm}, R41 x4 x5 m → zq_V (zk_g g) ("RiichiTableModel", prog_9_method_50_code, 6, (some .boolean), false, zq_rm 1 0 0) 0 0 41 [some (.ref 33), some (.int a1), some (.int a2), some (.int a3), some (.int x4), some (.int x5)] [] (zm_hp m) (zm_QI K)) {x5 : Int32} {t0 : Int32} {m : zm} (hJ : j_Model_canRun_L80 a1 a2 a3 R41 K x5 t0 m) : zq_V (zk_g g) ("RiichiTableModel", prog_9_method_50_code, 6, (some .boolean), false, zq_rm 1 0 0) 0 0 80 [some (.ref 33), some (.int a1), some (.int a2), some (.int a3), none, some (.int x5)] [.int t0] (zm_hp m) (zm_QI K) := by
  unfold j_Model_canRun_L80 at hJ
  refine zr_istore (L' := [some (.ref 33), some (.int a1), some (.int a2), some (.int a3), some (.int t0), some (.int x5)]) d_Model_canRun_80 (Nat.le_of_ble_eq_true rfl) rfl ?_
  refine zr_iinc (d' := 1) d_Model_canRun_82 zk_i1 rfl (Nat.le_of_ble_eq_true rfl) (fun y3 hy3 => ?_)
  have hJ := hJ y3 hy3
  refine zr_L (L' := [some (.ref 33), some (.int a1), some (.int a2), some (.int a3), some (.int t0), some (.int y3)]) rfl ?_
  refine zq_goto (tgt := 41) d_Model_canRun_85 (by decide) ?_
  refine zr_less (L' := [some (.ref 33), some (.int a1), some (.int a2), some (.int a3), some (.int t0), some (.int y3)]) ⟨rfl, ⟨rfl, ⟨rfl, ⟨rfl, ⟨rfl, ⟨rfl, trivial⟩⟩⟩⟩⟩⟩ ?_
  exact hR41  hJ
set_option maxHeartbeats 400000 in
theorem s_Model_canRun_L75 {g : zk_T} {a1 : Int32} {a2 : Int32} {a3 : Int32} {R41 : Int32 → Int32 → zm → Prop} {K : Int32 → zm → Prop} (hR41 : ∀ {x4 : Int32} {x5 : Int32} {m : zm}, R41 x4 x5 m → zq_V (zk_g g) ("RiichiTableModel", prog_9_method_50_code, 6, (some .boolean), false, zq_rm 1 0 0) 0 0 41 [some (.ref 33), some (.int a1), some (.int a2), some (.int a3), some (.int x4), some (.int x5)] [] (zm_hp m) (zm_QI K)) {x5 : Int32} {m : zm} (hJ : j_Model_canRun_L75 a1 a2 a3 R41 K x5 m) : zq_V (zk_g g) ("RiichiTableModel", prog_9_method_50_code, 6, (some .boolean), false, zq_rm 1 0 0) 0 0 75 [some (.ref 33), some (.int a1), some (.int a2), some (.int a3), none, some (.int x5)] [] (zm_hp m) (zm_QI K) := by
  unfold j_Model_canRun_L75 at hJ
  refine zq_iconst (v := 1) d_Model_canRun_75 zk_i1 ?_
  refine zq_goto (tgt := 80) d_Model_canRun_76 (by decide) ?_
  refine zr_less (L' := [some (.ref 33), some (.int a1), some (.int a2), some (.int a3), none, some (.int x5)]) ⟨rfl, ⟨rfl, ⟨rfl, ⟨rfl, ⟨rfl, trivial⟩⟩⟩⟩⟩ ?_
  exact s_Model_canRun_L80  hR41  hJ
set_option maxHeartbeats 400000 in
theorem s_Model_canRun_L88 {g : zk_T} {a1 : Int32} {a2 : Int32} {a3 : Int32} {K : Int32 → zm → Prop} {x4 : Int32} {m : zm} (hJ : j_Model_canRun_L88 a1 a2 a3  K x4 m) : zq_V (zk_g g) ("RiichiTableModel", prog_9_method_50_code, 6, (some .boolean), false, zq_rm 1 0 0) 0 0 88 [some (.ref 33), some (.int a1), some (.int a2), some (.int a3), some (.int x4), none] [] (zm_hp m) (zm_QI K) := by
  unfold j_Model_canRun_L88 at hJ
  refine zq_iload d_Model_canRun_88 rfl ?_
  exact zq_iret d_Model_canRun_90 rfl hJ.1.nar (Nat.le_refl _) (Nat.le_refl _) ⟨_, _, rfl, rfl, hJ.2⟩
set_option maxHeartbeats 400000 in
theorem s_Model_canRun_L41 {g : zk_T} {a1 : Int32} {a2 : Int32} {a3 : Int32} {K : Int32 → zm → Prop} : ∀ (n : Nat) {x4 : Int32} {x5 : Int32} {m : zm}, j_Model_canRun_L41 a1 a2 a3  K n x4 x5 m → zq_V (zk_g g) ("RiichiTableModel", prog_9_method_50_code, 6, (some .boolean), false, zq_rm 1 0 0) 0 0 41 [some (.ref 33), some (.int a1), some (.int a2), some (.int a3), some (.int x4), some (.int x5)] [] (zm_hp m) (zm_QI K) := by
  intro n
  induction n with
  | zero =>
    intro x4 x5 m hJ
    exact False.elim hJ
  | succ n ih =>
    intro x4 x5 m hJ
    rw [j_Model_canRun_L41] at hJ
    refine zq_iload d_Model_canRun_41 rfl ?_
    refine zq_iload_n d_Model_canRun_43 rfl rfl ?_
    refine zq_iconst (v := 2) d_Model_canRun_44 zk_i2 ?_
    refine zq_iadd d_Model_canRun_45 ?_
    refine zq_icmp_gt (tgt := 88) d_Model_canRun_46 (by decide) (fun c => ?_) (fun c => ?_)
    · have hJ := hJ.1 c
      refine zr_less (L' := [some (.ref 33), some (.int a1), some (.int a2), some (.int a3), some (.int x4), none]) ⟨rfl, ⟨rfl, ⟨rfl, ⟨rfl, ⟨rfl, trivial⟩⟩⟩⟩⟩ ?_
      exact s_Model_canRun_L88    hJ
    · have hJ := hJ.2 c
      refine zq_iload d_Model_canRun_49 rfl ?_
      refine zq_if_eq (tgt := 88) d_Model_canRun_51 (by decide) (fun c => ?_) (fun c => ?_)
      · have hJ := hJ.1 c
        refine zr_less (L' := [some (.ref 33), some (.int a1), some (.int a2), some (.int a3), some (.int x4), none]) ⟨rfl, ⟨rfl, ⟨rfl, ⟨rfl, ⟨rfl, trivial⟩⟩⟩⟩⟩ ?_
        exact s_Model_canRun_L88    hJ
      · have hJ := hJ.2 c
        refine zq_iload d_Model_canRun_54 rfl ?_
        refine zq_iload_n d_Model_canRun_56 rfl rfl ?_
        refine zq_icmp_eq (tgt := 75) d_Model_canRun_57 (by decide) (fun c => ?_) (fun c => ?_)
        · have hJ := hJ.1 c
          refine zr_less (L' := [some (.ref 33), some (.int a1), some (.int a2), some (.int a3), none, some (.int x5)]) ⟨rfl, ⟨rfl, ⟨rfl, ⟨rfl, ⟨rfl, trivial⟩⟩⟩⟩⟩ ?_
          exact s_Model_canRun_L75  ih  hJ
        · have hJ := hJ.2 c
          refine zq_aload_n d_Model_canRun_60 rfl rfl ?_
          refine zm_getR fg_Model_16 d_Model_canRun_61 zs_Model rfl ?_
          refine zq_bipush (v := 34) d_Model_canRun_64 zk_b34 ?_
          refine zq_iload_n d_Model_canRun_66 rfl rfl ?_
          refine zq_imul d_Model_canRun_67 ?_
          refine zq_iload d_Model_canRun_68 rfl ?_
          refine zq_iadd d_Model_canRun_70 ?_
          obtain ⟨hb, hJ⟩ := hJ
          refine zm_ald d_Model_canRun_71 (rfl : zm_sh[36]? = some (.inl (0, 136, .inl (fun _ => 0)))) hb ?_
          refine zq_if_le (tgt := 79) d_Model_canRun_72 (by decide) (fun c => ?_) (fun c => ?_)
          · have hJ := hJ.1 c
            refine zq_iconst (v := 0) d_Model_canRun_79 zk_i0 ?_
            refine zr_less (L' := [some (.ref 33), some (.int a1), some (.int a2), some (.int a3), none, some (.int x5)]) ⟨rfl, ⟨rfl, ⟨rfl, ⟨rfl, ⟨rfl, trivial⟩⟩⟩⟩⟩ ?_
            exact s_Model_canRun_L80  ih  hJ
          · have hJ := hJ.2 c
            refine zr_less (L' := [some (.ref 33), some (.int a1), some (.int a2), some (.int a3), none, some (.int x5)]) ⟨rfl, ⟨rfl, ⟨rfl, ⟨rfl, ⟨rfl, trivial⟩⟩⟩⟩⟩ ?_
            exact s_Model_canRun_L75  ih  hJ
set_option maxHeartbeats 400000 in
theorem s_Model_canRun_L36 {g : zk_T} {a1 : Int32} {a2 : Int32} {a3 : Int32} {K : Int32 → zm → Prop} {t0 : Int32} {m : zm} (hJ : j_Model_canRun_L36 a1 a2 a3  K t0 m) : zq_V (zk_g g) ("RiichiTableModel", prog_9_method_50_code, 6, (some .boolean), false, zq_rm 1 0 0) 0 0 36 [some (.ref 33), some (.int a1), some (.int a2), some (.int a3), none, none] [.int t0] (zm_hp m) (zm_QI K) := by
  unfold j_Model_canRun_L36 at hJ
  refine zr_istore (L' := [some (.ref 33), some (.int a1), some (.int a2), some (.int a3), some (.int t0), none]) d_Model_canRun_36 (Nat.le_of_ble_eq_true rfl) rfl ?_
  refine zq_iload_n d_Model_canRun_38 rfl rfl ?_
  refine zr_istore (L' := [some (.ref 33), some (.int a1), some (.int a2), some (.int a3), some (.int t0), some (.int a3)]) d_Model_canRun_39 (Nat.le_of_ble_eq_true rfl) rfl ?_
  refine zr_less (L' := [some (.ref 33), some (.int a1), some (.int a2), some (.int a3), some (.int t0), some (.int a3)]) ⟨rfl, ⟨rfl, ⟨rfl, ⟨rfl, ⟨rfl, ⟨rfl, trivial⟩⟩⟩⟩⟩⟩ ?_
  obtain ⟨n41, hJ⟩ := hJ
  exact s_Model_canRun_L41   n41  hJ
set_option maxHeartbeats 400000 in
theorem s_Model_canRun_L35 {g : zk_T} {a1 : Int32} {a2 : Int32} {a3 : Int32} {K : Int32 → zm → Prop} {m : zm} (hJ : j_Model_canRun_L35 a1 a2 a3  K  m) : zq_V (zk_g g) ("RiichiTableModel", prog_9_method_50_code, 6, (some .boolean), false, zq_rm 1 0 0) 0 0 35 [some (.ref 33), some (.int a1), some (.int a2), some (.int a3), none, none] [] (zm_hp m) (zm_QI K) := by
  unfold j_Model_canRun_L35 at hJ
  refine zq_iconst (v := 0) d_Model_canRun_35 zk_i0 ?_
  refine zr_less (L' := [some (.ref 33), some (.int a1), some (.int a2), some (.int a3), none, none]) ⟨rfl, ⟨rfl, ⟨rfl, ⟨rfl, trivial⟩⟩⟩⟩ ?_
  exact s_Model_canRun_L36    hJ
set_option maxHeartbeats 400000 in
theorem s_Model_canRun {g : zk_T} {a1 : Int32} {a2 : Int32} {a3 : Int32} {K : Int32 → zm → Prop} {m : zm} (hJ : j_Model_canRun a1 a2 a3 m K) : zq_Mt (zk_g g) y_Model_canRun 1 0 0 [.ref 33, .int a1, .int a2, .int a3] (zm_hp m) (zm_QI K) := by
  unfold j_Model_canRun at hJ
  refine zq_meth (ini := false) rfl (fun h => by cases h) (Nat.le_of_ble_eq_true rfl) ?_
  refine zr_L (F := ("RiichiTableModel", prog_9_method_50_code, 6, (some .boolean), false, zq_rm 1 0 0)) (L' := [some (.ref 33), some (.int a1), some (.int a2), some (.int a3), none, none]) rfl ?_
  refine zq_iload_n d_Model_canRun_0 rfl rfl ?_
  refine zq_if_lt (tgt := 35) d_Model_canRun_1 (by decide) (fun c => ?_) (fun c => ?_)
  · have hJ := hJ.1 c
    refine zr_less (L' := [some (.ref 33), some (.int a1), some (.int a2), some (.int a3), none, none]) ⟨rfl, ⟨rfl, ⟨rfl, ⟨rfl, trivial⟩⟩⟩⟩ ?_
    exact s_Model_canRun_L35    hJ
  · have hJ := hJ.2 c
    refine zq_iload_n d_Model_canRun_4 rfl rfl ?_
    refine zq_bipush (v := 25) d_Model_canRun_5 zk_b25 ?_
    refine zq_icmp_ge (tgt := 35) d_Model_canRun_7 (by decide) (fun c => ?_) (fun c => ?_)
    · have hJ := hJ.1 c
      refine zr_less (L' := [some (.ref 33), some (.int a1), some (.int a2), some (.int a3), none, none]) ⟨rfl, ⟨rfl, ⟨rfl, ⟨rfl, trivial⟩⟩⟩⟩ ?_
      exact s_Model_canRun_L35    hJ
    · have hJ := hJ.2 c
      refine zq_iload_n d_Model_canRun_10 rfl rfl ?_
      refine zr_csI (as := [.int a3]) (st := []) d_Model_canRun_11 cc_Model_147 cs_Model_rank (s_Model_rank  hJ) rfl ⟨Nat.le_of_ble_eq_true rfl, Nat.le_of_ble_eq_true rfl⟩ (Nat.le_of_ble_eq_true rfl) ⟨Nat.le_refl _, Nat.le_refl _⟩ rfl (fun r2 m1 hJ => ?_)
      refine zq_bipush (v := 8) d_Model_canRun_14 zk_b8 ?_
      refine zq_icmp_ge (tgt := 35) d_Model_canRun_16 (by decide) (fun c => ?_) (fun c => ?_)
      · have hJ := hJ.1 c
        refine zr_less (L' := [some (.ref 33), some (.int a1), some (.int a2), some (.int a3), none, none]) ⟨rfl, ⟨rfl, ⟨rfl, ⟨rfl, trivial⟩⟩⟩⟩ ?_
        exact s_Model_canRun_L35    hJ
      · have hJ := hJ.2 c
        refine zq_iload_n d_Model_canRun_19 rfl rfl ?_
        refine zq_iload_n d_Model_canRun_20 rfl rfl ?_
        refine zq_icmp_lt (tgt := 35) d_Model_canRun_21 (by decide) (fun c => ?_) (fun c => ?_)
        · have hJ := hJ.1 c
          refine zr_less (L' := [some (.ref 33), some (.int a1), some (.int a2), some (.int a3), none, none]) ⟨rfl, ⟨rfl, ⟨rfl, ⟨rfl, trivial⟩⟩⟩⟩ ?_
          exact s_Model_canRun_L35    hJ
        · have hJ := hJ.2 c
          refine zq_iload_n d_Model_canRun_24 rfl rfl ?_
          refine zq_iload_n d_Model_canRun_25 rfl rfl ?_
          refine zq_iconst (v := 2) d_Model_canRun_26 zk_i2 ?_
          refine zq_iadd d_Model_canRun_27 ?_
          refine zq_icmp_gt (tgt := 35) d_Model_canRun_28 (by decide) (fun c => ?_) (fun c => ?_)
          · have hJ := hJ.1 c
            refine zr_less (L' := [some (.ref 33), some (.int a1), some (.int a2), some (.int a3), none, none]) ⟨rfl, ⟨rfl, ⟨rfl, ⟨rfl, trivial⟩⟩⟩⟩ ?_
            exact s_Model_canRun_L35    hJ
          · have hJ := hJ.2 c
            refine zq_iconst (v := 1) d_Model_canRun_31 zk_i1 ?_
            refine zq_goto (tgt := 36) d_Model_canRun_32 (by decide) ?_
            refine zr_less (L' := [some (.ref 33), some (.int a1), some (.int a2), some (.int a3), none, none]) ⟨rfl, ⟨rfl, ⟨rfl, ⟨rfl, trivial⟩⟩⟩⟩ ?_
            exact s_Model_canRun_L36    hJ
set_option maxHeartbeats 400000 in
theorem s_Model_runOptions_L33 {g : zk_T} {a1 : Int32} {a2 : Int32} {R7 : Int32 → Int32 → zm → Prop} {K : Int32 → zm → Prop} (hR7 : ∀ {x3 : Int32} {x4 : Int32} {m : zm}, R7 x3 x4 m → zq_V (zk_g g) ("RiichiTableModel", prog_9_method_49_code, 5, (some .int), false, zq_rm 2 0 0) 0 0 7 [some (.ref 33), some (.int a1), some (.int a2), some (.int x3), some (.int x4)] [] (zm_hp m) (zm_QI K)) {x4 : Int32} {t0 : Int32} {m : zm} (hJ : j_Model_runOptions_L33 a1 a2 R7 K x4 t0 m) : zq_V (zk_g g) ("RiichiTableModel", prog_9_method_49_code, 5, (some .int), false, zq_rm 2 0 0) 0 0 33 [some (.ref 33), some (.int a1), some (.int a2), none, some (.int x4)] [.int t0] (zm_hp m) (zm_QI K) := by
  unfold j_Model_runOptions_L33 at hJ
  refine zr_istore_n (L' := [some (.ref 33), some (.int a1), some (.int a2), some (.int t0), some (.int x4)]) d_Model_runOptions_33 rfl (Nat.le_of_ble_eq_true rfl) rfl ?_
  refine zr_iinc (d' := 1) d_Model_runOptions_34 zk_i1 rfl (Nat.le_of_ble_eq_true rfl) (fun y4 hy4 => ?_)
  have hJ := hJ y4 hy4
  refine zr_L (L' := [some (.ref 33), some (.int a1), some (.int a2), some (.int t0), some (.int y4)]) rfl ?_
  refine zq_goto (tgt := 7) d_Model_runOptions_37 (by decide) ?_
  refine zr_less (L' := [some (.ref 33), some (.int a1), some (.int a2), some (.int t0), some (.int y4)]) ⟨rfl, ⟨rfl, ⟨rfl, ⟨rfl, ⟨rfl, trivial⟩⟩⟩⟩⟩ ?_
  exact hR7  hJ
set_option maxHeartbeats 400000 in
theorem s_Model_runOptions_L28 {g : zk_T} {a1 : Int32} {a2 : Int32} {R7 : Int32 → Int32 → zm → Prop} {K : Int32 → zm → Prop} (hR7 : ∀ {x3 : Int32} {x4 : Int32} {m : zm}, R7 x3 x4 m → zq_V (zk_g g) ("RiichiTableModel", prog_9_method_49_code, 5, (some .int), false, zq_rm 2 0 0) 0 0 7 [some (.ref 33), some (.int a1), some (.int a2), some (.int x3), some (.int x4)] [] (zm_hp m) (zm_QI K)) {x4 : Int32} {m : zm} (hJ : j_Model_runOptions_L28 a1 a2 R7 K x4 m) : zq_V (zk_g g) ("RiichiTableModel", prog_9_method_49_code, 5, (some .int), false, zq_rm 2 0 0) 0 0 28 [some (.ref 33), some (.int a1), some (.int a2), none, some (.int x4)] [] (zm_hp m) (zm_QI K) := by
  unfold j_Model_runOptions_L28 at hJ
  refine zq_iconst (v := 1) d_Model_runOptions_28 zk_i1 ?_
  refine zq_goto (tgt := 33) d_Model_runOptions_29 (by decide) ?_
  refine zr_less (L' := [some (.ref 33), some (.int a1), some (.int a2), none, some (.int x4)]) ⟨rfl, ⟨rfl, ⟨rfl, ⟨rfl, trivial⟩⟩⟩⟩ ?_
  exact s_Model_runOptions_L33  hR7  hJ
set_option maxHeartbeats 400000 in
theorem s_Model_runOptions_L49 {g : zk_T} {a1 : Int32} {a2 : Int32} {K : Int32 → zm → Prop} {t0 : Int32} {m : zm} (hJ : j_Model_runOptions_L49 a1 a2  K t0 m) : zq_V (zk_g g) ("RiichiTableModel", prog_9_method_49_code, 5, (some .int), false, zq_rm 2 0 0) 0 0 49 [some (.ref 33), some (.int a1), some (.int a2), none, none] [.int t0] (zm_hp m) (zm_QI K) := by
  unfold j_Model_runOptions_L49 at hJ
  exact zq_iret d_Model_runOptions_49 rfl rfl (Nat.le_refl _) (Nat.le_refl _) ⟨_, _, rfl, rfl, hJ⟩
set_option maxHeartbeats 400000 in
theorem s_Model_runOptions_L7 {g : zk_T} {a1 : Int32} {a2 : Int32} {K : Int32 → zm → Prop} : ∀ (n : Nat) {x3 : Int32} {x4 : Int32} {m : zm}, j_Model_runOptions_L7 a1 a2  K n x3 x4 m → zq_V (zk_g g) ("RiichiTableModel", prog_9_method_49_code, 5, (some .int), false, zq_rm 2 0 0) 0 0 7 [some (.ref 33), some (.int a1), some (.int a2), some (.int x3), some (.int x4)] [] (zm_hp m) (zm_QI K) := by
  intro n
  induction n with
  | zero =>
    intro x3 x4 m hJ
    exact False.elim hJ
  | succ n ih =>
    intro x3 x4 m hJ
    rw [j_Model_runOptions_L7] at hJ
    refine zq_iload d_Model_runOptions_7 rfl ?_
    refine zq_iload_n d_Model_runOptions_9 rfl rfl ?_
    refine zq_icmp_gt (tgt := 40) d_Model_runOptions_10 (by decide) (fun c => ?_) (fun c => ?_)
    · have hJ := hJ.1 c
      refine zq_iload_n d_Model_runOptions_40 rfl rfl ?_
      refine zq_if_eq (tgt := 48) d_Model_runOptions_41 (by decide) (fun c => ?_) (fun c => ?_)
      · have hJ := hJ.1 c
        refine zq_iconst (v := 0) d_Model_runOptions_48 zk_i0 ?_
        refine zr_less (L' := [some (.ref 33), some (.int a1), some (.int a2), none, none]) ⟨rfl, ⟨rfl, ⟨rfl, trivial⟩⟩⟩ ?_
        exact s_Model_runOptions_L49    hJ
      · have hJ := hJ.2 c
        refine zq_iconst (v := 2) d_Model_runOptions_44 zk_i2 ?_
        refine zq_goto (tgt := 49) d_Model_runOptions_45 (by decide) ?_
        refine zr_less (L' := [some (.ref 33), some (.int a1), some (.int a2), none, none]) ⟨rfl, ⟨rfl, ⟨rfl, trivial⟩⟩⟩ ?_
        exact s_Model_runOptions_L49    hJ
    · have hJ := hJ.2 c
      refine zq_iload_n d_Model_runOptions_13 rfl rfl ?_
      refine zq_if_ne (tgt := 28) d_Model_runOptions_14 (by decide) (fun c => ?_) (fun c => ?_)
      · have hJ := hJ.1 c
        refine zr_less (L' := [some (.ref 33), some (.int a1), some (.int a2), none, some (.int x4)]) ⟨rfl, ⟨rfl, ⟨rfl, ⟨rfl, trivial⟩⟩⟩⟩ ?_
        exact s_Model_runOptions_L28  ih  hJ
      · have hJ := hJ.2 c
        refine zq_aload_n d_Model_runOptions_17 rfl rfl ?_
        refine zq_iload_n d_Model_runOptions_18 rfl rfl ?_
        refine zq_iload_n d_Model_runOptions_19 rfl rfl ?_
        refine zq_iload d_Model_runOptions_20 rfl ?_
        refine zr_cvI (q := 33) (as := [.int a1, .int a2, .int x4]) (st := []) d_Model_runOptions_22 cc_Model_306 cv_Model_canRun zs_Model (s_Model_canRun  hJ) rfl ⟨Nat.le_of_ble_eq_true rfl, Nat.le_of_ble_eq_true rfl⟩ (Nat.le_of_ble_eq_true rfl) ⟨Nat.le_refl _, Nat.le_refl _⟩ rfl (fun r3 m2 hJ => ?_)
        refine zq_if_eq (tgt := 32) d_Model_runOptions_25 (by decide) (fun c => ?_) (fun c => ?_)
        · have hJ := hJ.1 c
          refine zq_iconst (v := 0) d_Model_runOptions_32 zk_i0 ?_
          refine zr_less (L' := [some (.ref 33), some (.int a1), some (.int a2), none, some (.int x4)]) ⟨rfl, ⟨rfl, ⟨rfl, ⟨rfl, trivial⟩⟩⟩⟩ ?_
          exact s_Model_runOptions_L33  ih  hJ
        · have hJ := hJ.2 c
          refine zr_less (L' := [some (.ref 33), some (.int a1), some (.int a2), none, some (.int x4)]) ⟨rfl, ⟨rfl, ⟨rfl, ⟨rfl, trivial⟩⟩⟩⟩ ?_
          exact s_Model_runOptions_L28  ih  hJ
set_option maxHeartbeats 400000 in
theorem s_Model_runOptions {g : zk_T} {a1 : Int32} {a2 : Int32} {K : Int32 → zm → Prop} {m : zm} (hJ : j_Model_runOptions a1 a2 m K) : zq_Mt (zk_g g) y_Model_runOptions 2 0 0 [.ref 33, .int a1, .int a2] (zm_hp m) (zm_QI K) := by
  unfold j_Model_runOptions at hJ
  refine zq_meth (ini := false) rfl (fun h => by cases h) (Nat.le_of_ble_eq_true rfl) ?_
  refine zr_L (F := ("RiichiTableModel", prog_9_method_49_code, 5, (some .int), false, zq_rm 2 0 0)) (L' := [some (.ref 33), some (.int a1), some (.int a2), none, none]) rfl ?_
  refine zq_iconst (v := 0) d_Model_runOptions_0 zk_i0 ?_
  refine zr_istore_n (L' := [some (.ref 33), some (.int a1), some (.int a2), some (.int 0), none]) d_Model_runOptions_1 rfl (Nat.le_of_ble_eq_true rfl) rfl ?_
  refine zq_iload_n d_Model_runOptions_2 rfl rfl ?_
  refine zq_iconst (v := 2) d_Model_runOptions_3 zk_i2 ?_
  refine zq_isub d_Model_runOptions_4 ?_
  refine zr_topi (fun y1 hy1 => ?_)
  have hJ := hJ y1 hy1
  refine zr_istore (L' := [some (.ref 33), some (.int a1), some (.int a2), some (.int 0), some (.int y1)]) d_Model_runOptions_5 (Nat.le_of_ble_eq_true rfl) rfl ?_
  refine zr_less (L' := [some (.ref 33), some (.int a1), some (.int a2), some (.int 0), some (.int y1)]) ⟨rfl, ⟨rfl, ⟨rfl, ⟨rfl, ⟨rfl, trivial⟩⟩⟩⟩⟩ ?_
  obtain ⟨n7, hJ⟩ := hJ
  exact s_Model_runOptions_L7   n7  hJ
set_option maxHeartbeats 400000 in
theorem s_Model_answered_L35 {g : zk_T} {a1 : Int32} {R4 : Int32 → Int32 → zm → Prop} {K : Int32 → zm → Prop} (hR4 : ∀ {x2 : Int32} {x3 : Int32} {m : zm}, R4 x2 x3 m → zq_V (zk_g g) ("RiichiTableModel", prog_9_method_54_code, 5, (some .int), false, zq_rm 0 0 0) 0 0 4 [some (.ref 33), some (.int a1), some (.int x2), some (.int x3), none] [] (zm_hp m) (zm_QI K)) {x3 : Int32} {t0 : Int32} {m : zm} (hJ : j_Model_answered_L35 a1 R4 K x3 t0 m) : zq_V (zk_g g) ("RiichiTableModel", prog_9_method_54_code, 5, (some .int), false, zq_rm 0 0 0) 0 0 35 [some (.ref 33), some (.int a1), none, some (.int x3), none] [.int t0] (zm_hp m) (zm_QI K) := by
  unfold j_Model_answered_L35 at hJ
  refine zr_istore_n (L' := [some (.ref 33), some (.int a1), some (.int t0), some (.int x3), none]) d_Model_answered_35 rfl (Nat.le_of_ble_eq_true rfl) rfl ?_
  refine zr_iinc (d' := (-1)) d_Model_answered_36 zk_im1 rfl (Nat.le_of_ble_eq_true rfl) (fun y2 hy2 => ?_)
  have hJ := hJ y2 hy2
  refine zr_L (L' := [some (.ref 33), some (.int a1), some (.int t0), some (.int y2), none]) rfl ?_
  refine zq_goto (tgt := 4) d_Model_answered_39 (by decide) ?_
  refine zr_less (L' := [some (.ref 33), some (.int a1), some (.int t0), some (.int y2), none]) ⟨rfl, ⟨rfl, ⟨rfl, ⟨rfl, trivial⟩⟩⟩⟩ ?_
  exact hR4  hJ
set_option maxHeartbeats 400000 in
theorem s_Model_answered_L4 {g : zk_T} {a1 : Int32} {K : Int32 → zm → Prop} : ∀ (n : Nat) {x2 : Int32} {x3 : Int32} {m : zm}, j_Model_answered_L4 a1  K n x2 x3 m → zq_V (zk_g g) ("RiichiTableModel", prog_9_method_54_code, 5, (some .int), false, zq_rm 0 0 0) 0 0 4 [some (.ref 33), some (.int a1), some (.int x2), some (.int x3), none] [] (zm_hp m) (zm_QI K) := by
  intro n
  induction n with
  | zero =>
    intro x2 x3 m hJ
    exact False.elim hJ
  | succ n ih =>
    intro x2 x3 m hJ
    rw [j_Model_answered_L4] at hJ
    refine zq_iload_n d_Model_answered_4 rfl rfl ?_
    refine zq_if_le (tgt := 42) d_Model_answered_5 (by decide) (fun c => ?_) (fun c => ?_)
    · have hJ := hJ.1 c
      refine zq_iload_n d_Model_answered_42 rfl rfl ?_
      exact zq_iret d_Model_answered_43 rfl rfl (Nat.le_refl _) (Nat.le_refl _) ⟨_, _, rfl, rfl, hJ⟩
    · have hJ := hJ.2 c
      refine zq_aload_n d_Model_answered_8 rfl rfl ?_
      refine zm_getI fg_Model_113 d_Model_answered_9 zs_Model rfl ?_
      refine zq_iload_n d_Model_answered_12 rfl rfl ?_
      refine zq_iadd d_Model_answered_13 ?_
      refine zq_iconst (v := 4) d_Model_answered_14 zk_i4 ?_
      refine zq_irem d_Model_answered_15 (by decide) ?_
      refine zr_topi (fun y1 hy1 => ?_)
      have hJ := hJ y1 hy1
      refine zr_istore (L' := [some (.ref 33), some (.int a1), some (.int x2), some (.int x3), some (.int y1)]) d_Model_answered_16 (Nat.le_of_ble_eq_true rfl) rfl ?_
      refine zq_aload_n d_Model_answered_18 rfl rfl ?_
      refine zm_getR fg_Model_47 d_Model_answered_19 zs_Model rfl ?_
      refine zq_iload d_Model_answered_22 rfl ?_
      obtain ⟨hb, hJ⟩ := hJ
      refine zm_ald d_Model_answered_24 (rfl : zm_sh[46]? = some (.inl (0, 4, .inl (fun _ => 0)))) hb ?_
      refine zq_iload_n d_Model_answered_25 rfl rfl ?_
      refine zq_icmp_ne (tgt := 34) d_Model_answered_26 (by decide) (fun c => ?_) (fun c => ?_)
      · have hJ := hJ.1 c
        refine zq_iload_n d_Model_answered_34 rfl rfl ?_
        refine zr_less (L' := [some (.ref 33), some (.int a1), none, some (.int x3), none]) ⟨rfl, ⟨rfl, ⟨rfl, trivial⟩⟩⟩ ?_
        exact s_Model_answered_L35  ih  hJ
      · have hJ := hJ.2 c
        refine zq_iload d_Model_answered_29 rfl ?_
        refine zq_goto (tgt := 35) d_Model_answered_31 (by decide) ?_
        refine zr_less (L' := [some (.ref 33), some (.int a1), none, some (.int x3), none]) ⟨rfl, ⟨rfl, ⟨rfl, trivial⟩⟩⟩ ?_
        exact s_Model_answered_L35  ih  hJ
set_option maxHeartbeats 400000 in
theorem s_Model_answered {g : zk_T} {a1 : Int32} {K : Int32 → zm → Prop} {m : zm} (hJ : j_Model_answered a1 m K) : zq_Mt (zk_g g) y_Model_answered 0 0 0 [.ref 33, .int a1] (zm_hp m) (zm_QI K) := by
  unfold j_Model_answered at hJ
  refine zq_meth (ini := false) rfl (fun h => by cases h) (Nat.le_of_ble_eq_true rfl) ?_
  refine zr_L (F := ("RiichiTableModel", prog_9_method_54_code, 5, (some .int), false, zq_rm 0 0 0)) (L' := [some (.ref 33), some (.int a1), none, none, none]) rfl ?_
  refine zq_iconst (v := (-1)) d_Model_answered_0 zk_im1 ?_
  refine zr_istore_n (L' := [some (.ref 33), some (.int a1), some (.int (-1)), none, none]) d_Model_answered_1 rfl (Nat.le_of_ble_eq_true rfl) rfl ?_
  refine zq_iconst (v := 3) d_Model_answered_2 zk_i3 ?_
  refine zr_istore_n (L' := [some (.ref 33), some (.int a1), some (.int (-1)), some (.int 3), none]) d_Model_answered_3 rfl (Nat.le_of_ble_eq_true rfl) rfl ?_
  refine zr_less (L' := [some (.ref 33), some (.int a1), some (.int (-1)), some (.int 3), none]) ⟨rfl, ⟨rfl, ⟨rfl, ⟨rfl, trivial⟩⟩⟩⟩ ?_
  obtain ⟨n4, hJ⟩ := hJ
  exact s_Model_answered_L4   n4  hJ
set_option maxHeartbeats 400000 in
theorem s_Model_stopEarly_L7 {g : zk_T} {K : zm → Prop} : ∀ (n : Nat) {x1 : Int32} {m : zm}, j_Model_stopEarly_L7   K n x1 m → zq_V (zk_g g) ("RiichiTableModel", prog_9_method_57_code, 2, none, false, zq_rm 0 0 0) 0 0 7 [some (.ref 33), some (.int x1)] [] (zm_hp m) (zm_QV K) := by
  intro n
  induction n with
  | zero =>
    intro x1 m hJ
    exact False.elim hJ
  | succ n ih =>
    intro x1 m hJ
    rw [j_Model_stopEarly_L7] at hJ
    refine zq_iload_n d_Model_stopEarly_7 rfl rfl ?_
    refine zq_iconst (v := 4) d_Model_stopEarly_8 zk_i4 ?_
    refine zq_icmp_ge (tgt := 25) d_Model_stopEarly_9 (by decide) (fun c => ?_) (fun c => ?_)
    · have hJ := hJ.1 c
      exact zq_vret d_Model_stopEarly_25 rfl (Nat.le_refl _) (Nat.le_refl _) ⟨_, rfl, rfl, hJ⟩
    · have hJ := hJ.2 c
      refine zq_aload_n d_Model_stopEarly_12 rfl rfl ?_
      refine zm_getR fg_Model_37 d_Model_stopEarly_13 zs_Model rfl ?_
      refine zq_iload_n d_Model_stopEarly_16 rfl rfl ?_
      refine zq_iconst (v := 0) d_Model_stopEarly_17 zk_i0 ?_
      obtain ⟨hb, hJ⟩ := hJ
      refine zr_zst d_Model_stopEarly_18 (rfl : zm_sh[43]? = some (.inl (2, 4, .inl (fun _ => 0)))) hb (Or.inl rfl) (fun m2 hm2 => ?_)
      have hJ := hJ m2 hm2
      refine zr_iinc (d' := 1) d_Model_stopEarly_19 zk_i1 rfl (Nat.le_of_ble_eq_true rfl) (fun y3 hy3 => ?_)
      have hJ := hJ y3 hy3
      refine zr_L (L' := [some (.ref 33), some (.int y3)]) rfl ?_
      refine zq_goto (tgt := 7) d_Model_stopEarly_22 (by decide) ?_
      refine zr_less (L' := [some (.ref 33), some (.int y3)]) ⟨rfl, ⟨rfl, trivial⟩⟩ ?_
      exact ih  hJ
set_option maxHeartbeats 400000 in
theorem s_Model_stopEarly {g : zk_T} {K : zm → Prop} {m : zm} (hJ : j_Model_stopEarly  m K) : zq_Mt (zk_g g) y_Model_stopEarly 0 0 0 [.ref 33] (zm_hp m) (zm_QV K) := by
  unfold j_Model_stopEarly at hJ
  refine zq_meth (ini := false) rfl (fun h => by cases h) (Nat.le_of_ble_eq_true rfl) ?_
  refine zr_L (F := ("RiichiTableModel", prog_9_method_57_code, 2, none, false, zq_rm 0 0 0)) (L' := [some (.ref 33), none]) rfl ?_
  refine zq_aload_n d_Model_stopEarly_0 rfl rfl ?_
  refine zq_iconst (v := 1) d_Model_stopEarly_1 zk_i1 ?_
  refine zr_putZ fl_Model_102 d_Model_stopEarly_2 zs_Model rfl rfl (Or.inr rfl) (fun m1 hm1 => ?_)
  have hJ := hJ m1 hm1
  refine zq_iconst (v := 0) d_Model_stopEarly_5 zk_i0 ?_
  refine zr_istore_n (L' := [some (.ref 33), some (.int 0)]) d_Model_stopEarly_6 rfl (Nat.le_of_ble_eq_true rfl) rfl ?_
  refine zr_less (L' := [some (.ref 33), some (.int 0)]) ⟨rfl, ⟨rfl, trivial⟩⟩ ?_
  obtain ⟨n7, hJ⟩ := hJ
  exact s_Model_stopEarly_L7   n7  hJ
set_option maxHeartbeats 400000 in
theorem s_Model_completeQuad {g : zk_T} {a1 : Int32} {K : zm → Prop} {m : zm} (hJ : j_Model_completeQuad a1 m K) : zq_Mt (zk_g g) y_Model_completeQuad 1 0 0 [.ref 33, .int a1] (zm_hp m) (zm_QV K) := by
  unfold j_Model_completeQuad at hJ
  refine zq_meth (ini := false) rfl (fun h => by cases h) (Nat.le_of_ble_eq_true rfl) ?_
  refine zr_L (F := ("RiichiTableModel", prog_9_method_60_code, 2, none, false, zq_rm 1 0 0)) (L' := [some (.ref 33), some (.int a1)]) rfl ?_
  refine zq_aload_n d_Model_completeQuad_0 rfl rfl ?_
  refine zq_dup d_Model_completeQuad_1 rfl ?_
  refine zm_getI fg_Model_93 d_Model_completeQuad_2 zs_Model rfl ?_
  refine zq_iconst (v := 1) d_Model_completeQuad_5 zk_i1 ?_
  refine zq_iadd d_Model_completeQuad_6 ?_
  refine zr_putI fl_Model_93 d_Model_completeQuad_7 zs_Model rfl rfl (fun m1 hm1 => ?_)
  have hJ := hJ m1 hm1
  refine zq_aload_n d_Model_completeQuad_10 rfl rfl ?_
  refine zr_cvV (q := 33) (as := []) (st := []) d_Model_completeQuad_11 cc_Model_353 cv_Model_stopEarly zs_Model (s_Model_stopEarly  hJ) rfl ⟨Nat.le_of_ble_eq_true rfl, Nat.le_of_ble_eq_true rfl⟩ (Nat.le_of_ble_eq_true rfl) ⟨Nat.le_refl _, Nat.le_refl _⟩ rfl (fun m2 hJ => ?_)
  refine zq_aload_n d_Model_completeQuad_14 rfl rfl ?_
  refine zq_iload_n d_Model_completeQuad_15 rfl rfl ?_
  refine zq_aload_n d_Model_completeQuad_16 rfl rfl ?_
  refine zm_getR fg_Model_7 d_Model_completeQuad_17 zs_Model rfl ?_
  refine zq_sipush (v := 136) d_Model_completeQuad_20 zk_s136 ?_
  refine zq_aload_n d_Model_completeQuad_23 rfl rfl ?_
  refine zm_getI fg_Model_93 d_Model_completeQuad_24 zs_Model rfl ?_
  refine zq_isub d_Model_completeQuad_27 ?_
  obtain ⟨hb, hJ⟩ := hJ
  refine zm_ald d_Model_completeQuad_28 (rfl : zm_sh[34]? = some (.inl (0, 136, .inl (fun _ => 0)))) hb ?_
  refine zq_iconst (v := 1) d_Model_completeQuad_29 zk_i1 ?_
  refine zr_cvV (q := 33) (as := [.int a1, .int (m2.1 34 (Int32.toNatClampNeg (136 - (m2.1 33 16)))), .int 1]) (st := []) d_Model_completeQuad_30 cc_Model_129 cv_Model_take zs_Model (s_Model_take  hJ) rfl ⟨Nat.le_of_ble_eq_true rfl, Nat.le_of_ble_eq_true rfl⟩ (Nat.le_of_ble_eq_true rfl) ⟨Nat.le_refl _, Nat.le_refl _⟩ rfl (fun m3 hJ => ?_)
  exact zq_vret d_Model_completeQuad_33 rfl (Nat.le_refl _) (Nat.le_refl _) ⟨_, rfl, rfl, hJ⟩
set_option maxHeartbeats 400000 in
theorem s_Model_lay {g : zk_T} {a1 : Int32} {a2 : Int32} {a3 : Int32} {K : zm → Prop} {m : zm} (hJ : j_Model_lay a1 a2 a3 m K) : zq_Mt (zk_g g) y_Model_lay 0 0 0 [.ref 33, .int a1, .int a2, .int a3] (zm_hp m) (zm_QV K) := by
  unfold j_Model_lay at hJ
  refine zq_meth (ini := false) rfl (fun h => by cases h) (Nat.le_of_ble_eq_true rfl) ?_
  refine zr_L (F := ("RiichiTableModel", prog_9_method_58_code, 4, none, false, zq_rm 0 0 0)) (L' := [some (.ref 33), some (.int a1), some (.int a2), some (.int a3)]) rfl ?_
  refine zq_aload_n d_Model_lay_0 rfl rfl ?_
  refine zm_getR fg_Model_22 d_Model_lay_1 zs_Model rfl ?_
  refine zq_iconst (v := 4) d_Model_lay_4 zk_i4 ?_
  refine zq_iload_n d_Model_lay_5 rfl rfl ?_
  refine zq_imul d_Model_lay_6 ?_
  refine zq_aload_n d_Model_lay_7 rfl rfl ?_
  refine zm_getR fg_Model_19 d_Model_lay_8 zs_Model rfl ?_
  refine zq_iload_n d_Model_lay_11 rfl rfl ?_
  obtain ⟨hb, hJ⟩ := hJ
  refine zm_ald d_Model_lay_12 (rfl : zm_sh[37]? = some (.inl (0, 4, .inl (fun _ => 0)))) hb ?_
  refine zq_iadd d_Model_lay_13 ?_
  refine zq_iload_n d_Model_lay_14 rfl rfl ?_
  obtain ⟨hb, hJ⟩ := hJ
  refine zr_ast d_Model_lay_15 (rfl : zm_sh[38]? = some (.inl (0, 16, .inl (fun _ => 0)))) hb (fun m1 hm1 => ?_)
  have hJ := hJ m1 hm1
  refine zq_aload_n d_Model_lay_16 rfl rfl ?_
  refine zm_getR fg_Model_25 d_Model_lay_17 zs_Model rfl ?_
  refine zq_iconst (v := 4) d_Model_lay_20 zk_i4 ?_
  refine zq_iload_n d_Model_lay_21 rfl rfl ?_
  refine zq_imul d_Model_lay_22 ?_
  refine zq_aload_n d_Model_lay_23 rfl rfl ?_
  refine zm_getR fg_Model_19 d_Model_lay_24 zs_Model rfl ?_
  refine zq_iload_n d_Model_lay_27 rfl rfl ?_
  obtain ⟨hb, hJ⟩ := hJ
  refine zm_ald d_Model_lay_28 (rfl : zm_sh[37]? = some (.inl (0, 4, .inl (fun _ => 0)))) hb ?_
  refine zq_iadd d_Model_lay_29 ?_
  refine zq_iload_n d_Model_lay_30 rfl rfl ?_
  obtain ⟨hb, hJ⟩ := hJ
  refine zr_ast d_Model_lay_31 (rfl : zm_sh[39]? = some (.inl (0, 16, .inl (fun _ => 0)))) hb (fun m2 hm2 => ?_)
  have hJ := hJ m2 hm2
  refine zq_aload_n d_Model_lay_32 rfl rfl ?_
  refine zm_getR fg_Model_19 d_Model_lay_33 zs_Model rfl ?_
  refine zq_iload_n d_Model_lay_36 rfl rfl ?_
  refine zq_dup2 d_Model_lay_37 rfl rfl ?_
  obtain ⟨hb, hJ⟩ := hJ
  refine zm_ald d_Model_lay_38 (rfl : zm_sh[37]? = some (.inl (0, 4, .inl (fun _ => 0)))) hb ?_
  refine zq_iconst (v := 1) d_Model_lay_39 zk_i1 ?_
  refine zq_iadd d_Model_lay_40 ?_
  obtain ⟨hb, hJ⟩ := hJ
  refine zr_ast d_Model_lay_41 (rfl : zm_sh[37]? = some (.inl (0, 4, .inl (fun _ => 0)))) hb (fun m3 hm3 => ?_)
  have hJ := hJ m3 hm3
  exact zq_vret d_Model_lay_42 rfl (Nat.le_refl _) (Nat.le_refl _) ⟨_, rfl, rfl, hJ⟩
set_option maxHeartbeats 400000 in
theorem s_Model_call_L92 {g : zk_T} {R53 : Int32 → Int32 → Int32 → Int32 → zm → Prop} {K : zm → Prop} (hR53 : ∀ {x1 : Int32} {x2 : Int32} {x3 : Int32} {x4 : Int32} {m : zm}, R53 x1 x2 x3 x4 m → zq_V (zk_g g) ("RiichiTableModel", prog_9_method_59_code, 5, none, false, zq_rm 2 0 0) 0 0 53 [some (.ref 33), some (.int x1), some (.int x2), some (.int x3), some (.int x4)] [] (zm_hp m) (zm_QV K)) {x1 : Int32} {x2 : Int32} {x3 : Int32} {x4 : Int32} {t0 : Int32} {t1 : Int32} {t2 : Int32} {m : zm} (hJ : j_Model_call_L92  R53 K x1 x2 x3 x4 t0 t1 t2 m) : zq_V (zk_g g) ("RiichiTableModel", prog_9_method_59_code, 5, none, false, zq_rm 2 0 0) 0 0 92 [some (.ref 33), some (.int x1), some (.int x2), some (.int x3), some (.int x4)] [.int t0, .int t1, .int t2, .ref 36] (zm_hp m) (zm_QV K) := by
  unfold j_Model_call_L92 at hJ
  refine zq_isub d_Model_call_92 ?_
  obtain ⟨hb, hJ⟩ := hJ
  refine zr_ast d_Model_call_93 (rfl : zm_sh[36]? = some (.inl (0, 136, .inl (fun _ => 0)))) hb (fun m7 hm7 => ?_)
  have hJ := hJ m7 hm7
  refine zr_iinc (d' := 1) d_Model_call_94 zk_i1 rfl (Nat.le_of_ble_eq_true rfl) (fun y8 hy8 => ?_)
  have hJ := hJ y8 hy8
  refine zr_L (L' := [some (.ref 33), some (.int x1), some (.int x2), some (.int x3), some (.int y8)]) rfl ?_
  refine zq_goto (tgt := 53) d_Model_call_97 (by decide) ?_
  refine zr_less (L' := [some (.ref 33), some (.int x1), some (.int x2), some (.int x3), some (.int y8)]) ⟨rfl, ⟨rfl, ⟨rfl, ⟨rfl, ⟨rfl, trivial⟩⟩⟩⟩⟩ ?_
  exact hR53  hJ
set_option maxHeartbeats 400000 in
theorem s_Model_call_L209 {g : zk_T} {K : zm → Prop} {m : zm} (hJ : j_Model_call_L209   K  m) : zq_V (zk_g g) ("RiichiTableModel", prog_9_method_59_code, 5, none, false, zq_rm 2 0 0) 0 0 209 [some (.ref 33), none, none, none, none] [] (zm_hp m) (zm_QV K) := by
  unfold j_Model_call_L209 at hJ
  exact zq_vret d_Model_call_209 rfl (Nat.le_refl _) (Nat.le_refl _) ⟨_, rfl, rfl, hJ⟩
set_option maxHeartbeats 400000 in
theorem s_Model_call_L175 {g : zk_T} {K : zm → Prop} {x1 : Int32} {x2 : Int32} {t0 : Int32} {t1 : Int32} {m : zm} (hJ : j_Model_call_L175   K x1 x2 t0 t1 m) : zq_V (zk_g g) ("RiichiTableModel", prog_9_method_59_code, 5, none, false, zq_rm 2 0 0) 0 0 175 [some (.ref 33), some (.int x1), some (.int x2), none, none] [.int t0, .int t1, .ref 44] (zm_hp m) (zm_QV K) := by
  unfold j_Model_call_L175 at hJ
  obtain ⟨hb, hJ⟩ := hJ
  obtain ⟨hz, hJ⟩ := hJ
  refine zr_zst d_Model_call_175 (rfl : zm_sh[44]? = some (.inl (2, 4, .inl (fun _ => 0)))) hb hz (fun m12 hm12 => ?_)
  have hJ := hJ m12 hm12
  refine zq_iload_n d_Model_call_176 rfl rfl ?_
  refine zq_iconst (v := 2) d_Model_call_177 zk_i2 ?_
  refine zq_icmp_ne (tgt := 189) d_Model_call_178 (by decide) (fun c => ?_) (fun c => ?_)
  · have hJ := hJ.1 c
    refine zq_aload_n d_Model_call_189 rfl rfl ?_
    refine zq_iload_n d_Model_call_190 rfl rfl ?_
    refine zr_putI fl_Model_113 d_Model_call_191 zs_Model rfl rfl (fun m13 hm13 => ?_)
    have hJ := hJ m13 hm13
    refine zq_aload_n d_Model_call_194 rfl rfl ?_
    refine zq_iconst (v := (-1)) d_Model_call_195 zk_im1 ?_
    refine zr_putI fl_Model_116 d_Model_call_196 zs_Model rfl rfl (fun m14 hm14 => ?_)
    have hJ := hJ m14 hm14
    refine zq_aload_n d_Model_call_199 rfl rfl ?_
    refine zq_iconst (v := 0) d_Model_call_200 zk_i0 ?_
    refine zr_putZ fl_Model_119 d_Model_call_201 zs_Model rfl rfl (Or.inl rfl) (fun m15 hm15 => ?_)
    have hJ := hJ m15 hm15
    refine zq_aload_n d_Model_call_204 rfl rfl ?_
    refine zq_iconst (v := 1) d_Model_call_205 zk_i1 ?_
    refine zr_putI fl_Model_90 d_Model_call_206 zs_Model rfl rfl (fun m16 hm16 => ?_)
    have hJ := hJ m16 hm16
    refine zr_less (L' := [some (.ref 33), none, none, none, none]) ⟨rfl, trivial⟩ ?_
    exact s_Model_call_L209    hJ
  · have hJ := hJ.2 c
    refine zq_aload_n d_Model_call_181 rfl rfl ?_
    refine zq_iload_n d_Model_call_182 rfl rfl ?_
    refine zr_cvV (q := 33) (as := [.int x1]) (st := []) d_Model_call_183 cc_Model_356 cv_Model_completeQuad zs_Model (s_Model_completeQuad  hJ) rfl ⟨Nat.le_of_ble_eq_true rfl, Nat.le_of_ble_eq_true rfl⟩ (Nat.le_of_ble_eq_true rfl) ⟨Nat.le_refl _, Nat.le_refl _⟩ rfl (fun m17 hJ => ?_)
    refine zq_goto (tgt := 209) d_Model_call_186 (by decide) ?_
    refine zr_less (L' := [some (.ref 33), none, none, none, none]) ⟨rfl, trivial⟩ ?_
    exact s_Model_call_L209    hJ
set_option maxHeartbeats 400000 in
theorem s_Model_call_L174 {g : zk_T} {K : zm → Prop} {x1 : Int32} {x2 : Int32} {t0 : Int32} {m : zm} (hJ : j_Model_call_L174   K x1 x2 t0 m) : zq_V (zk_g g) ("RiichiTableModel", prog_9_method_59_code, 5, none, false, zq_rm 2 0 0) 0 0 174 [some (.ref 33), some (.int x1), some (.int x2), none, none] [.int t0, .ref 44] (zm_hp m) (zm_QV K) := by
  unfold j_Model_call_L174 at hJ
  refine zq_iconst (v := 0) d_Model_call_174 zk_i0 ?_
  refine zr_less (L' := [some (.ref 33), some (.int x1), some (.int x2), none, none]) ⟨rfl, ⟨rfl, ⟨rfl, trivial⟩⟩⟩ ?_
  exact s_Model_call_L175    hJ
set_option maxHeartbeats 400000 in
theorem s_Model_call_L134 {g : zk_T} {K : zm → Prop} {x1 : Int32} {x2 : Int32} {x3 : Int32} {t0 : Int32} {t1 : Int32} {t2 : Int32} {m : zm} (hJ : j_Model_call_L134   K x1 x2 x3 t0 t1 t2 m) : zq_V (zk_g g) ("RiichiTableModel", prog_9_method_59_code, 5, none, false, zq_rm 2 0 0) 0 0 134 [some (.ref 33), some (.int x1), some (.int x2), some (.int x3), none] [.int t0, .int t1, .int t2, .ref 36] (zm_hp m) (zm_QV K) := by
  unfold j_Model_call_L134 at hJ
  refine zq_isub d_Model_call_134 ?_
  obtain ⟨hb, hJ⟩ := hJ
  refine zr_ast d_Model_call_135 (rfl : zm_sh[36]? = some (.inl (0, 136, .inl (fun _ => 0)))) hb (fun m9 hm9 => ?_)
  have hJ := hJ m9 hm9
  refine zq_aload_n d_Model_call_136 rfl rfl ?_
  refine zq_iload_n d_Model_call_137 rfl rfl ?_
  refine zq_iload_n d_Model_call_138 rfl rfl ?_
  refine zq_iload_n d_Model_call_139 rfl rfl ?_
  refine zr_cvV (q := 33) (as := [.int x1, .int x2, .int x3]) (st := []) d_Model_call_140 cc_Model_349 cv_Model_lay zs_Model (s_Model_lay  hJ) rfl ⟨Nat.le_of_ble_eq_true rfl, Nat.le_of_ble_eq_true rfl⟩ (Nat.le_of_ble_eq_true rfl) ⟨Nat.le_refl _, Nat.le_refl _⟩ rfl (fun m10 hJ => ?_)
  refine zq_aload_n d_Model_call_143 rfl rfl ?_
  refine zr_cvV (q := 33) (as := []) (st := []) d_Model_call_144 cc_Model_353 cv_Model_stopEarly zs_Model (s_Model_stopEarly  hJ) rfl ⟨Nat.le_of_ble_eq_true rfl, Nat.le_of_ble_eq_true rfl⟩ (Nat.le_of_ble_eq_true rfl) ⟨Nat.le_refl _, Nat.le_refl _⟩ rfl (fun m11 hJ => ?_)
  refine zq_aload_n d_Model_call_147 rfl rfl ?_
  refine zm_getR fg_Model_41 d_Model_call_148 zs_Model rfl ?_
  refine zq_iload_n d_Model_call_151 rfl rfl ?_
  refine zq_aload_n d_Model_call_152 rfl rfl ?_
  refine zm_getR fg_Model_41 d_Model_call_153 zs_Model rfl ?_
  refine zq_iload_n d_Model_call_156 rfl rfl ?_
  obtain ⟨hb, hJ⟩ := hJ
  refine zm_zld d_Model_call_157 (rfl : zm_sh[44]? = some (.inl (2, 4, .inl (fun _ => 0)))) hb ?_
  refine zq_if_eq (tgt := 174) d_Model_call_158 (by decide) (fun c => ?_) (fun c => ?_)
  · have hJ := hJ.1 c
    refine zr_less (L' := [some (.ref 33), some (.int x1), some (.int x2), none, none]) ⟨rfl, ⟨rfl, ⟨rfl, trivial⟩⟩⟩ ?_
    exact s_Model_call_L174    hJ
  · have hJ := hJ.2 c
    refine zq_aload_n d_Model_call_161 rfl rfl ?_
    refine zm_getR fg_Model_34 d_Model_call_162 zs_Model rfl ?_
    refine zq_iload_n d_Model_call_165 rfl rfl ?_
    obtain ⟨hb, hJ⟩ := hJ
    refine zm_ald d_Model_call_166 (rfl : zm_sh[42]? = some (.inl (0, 4, .inl (fun _ => 0)))) hb ?_
    refine zq_if_le (tgt := 174) d_Model_call_167 (by decide) (fun c => ?_) (fun c => ?_)
    · have hJ := hJ.1 c
      refine zr_less (L' := [some (.ref 33), some (.int x1), some (.int x2), none, none]) ⟨rfl, ⟨rfl, ⟨rfl, trivial⟩⟩⟩ ?_
      exact s_Model_call_L174    hJ
    · have hJ := hJ.2 c
      refine zq_iconst (v := 1) d_Model_call_170 zk_i1 ?_
      refine zq_goto (tgt := 175) d_Model_call_171 (by decide) ?_
      refine zr_less (L' := [some (.ref 33), some (.int x1), some (.int x2), none, none]) ⟨rfl, ⟨rfl, ⟨rfl, trivial⟩⟩⟩ ?_
      exact s_Model_call_L175    hJ
set_option maxHeartbeats 400000 in
theorem s_Model_call_L100 {g : zk_T} {K : zm → Prop} {x1 : Int32} {x2 : Int32} {x3 : Int32} {m : zm} (hJ : j_Model_call_L100   K x1 x2 x3 m) : zq_V (zk_g g) ("RiichiTableModel", prog_9_method_59_code, 5, none, false, zq_rm 2 0 0) 0 0 100 [some (.ref 33), some (.int x1), some (.int x2), some (.int x3), none] [] (zm_hp m) (zm_QV K) := by
  unfold j_Model_call_L100 at hJ
  refine zq_aload_n d_Model_call_100 rfl rfl ?_
  refine zm_getR fg_Model_16 d_Model_call_101 zs_Model rfl ?_
  refine zq_bipush (v := 34) d_Model_call_104 zk_b34 ?_
  refine zq_iload_n d_Model_call_106 rfl rfl ?_
  refine zq_imul d_Model_call_107 ?_
  refine zq_aload_n d_Model_call_108 rfl rfl ?_
  refine zm_getI fg_Model_309 d_Model_call_109 zs_Model rfl ?_
  refine zq_iadd d_Model_call_112 ?_
  refine zq_dup2 d_Model_call_113 rfl rfl ?_
  obtain ⟨hb, hJ⟩ := hJ
  refine zm_ald d_Model_call_114 (rfl : zm_sh[36]? = some (.inl (0, 136, .inl (fun _ => 0)))) hb ?_
  refine zq_iload_n d_Model_call_115 rfl rfl ?_
  refine zq_iconst (v := 2) d_Model_call_116 zk_i2 ?_
  refine zq_icmp_ne (tgt := 124) d_Model_call_117 (by decide) (fun c => ?_) (fun c => ?_)
  · have hJ := hJ.1 c
    refine zq_iload_n d_Model_call_124 rfl rfl ?_
    refine zq_iconst (v := 1) d_Model_call_125 zk_i1 ?_
    refine zq_icmp_ne (tgt := 133) d_Model_call_126 (by decide) (fun c => ?_) (fun c => ?_)
    · have hJ := hJ.1 c
      refine zq_iconst (v := 0) d_Model_call_133 zk_i0 ?_
      refine zr_less (L' := [some (.ref 33), some (.int x1), some (.int x2), some (.int x3), none]) ⟨rfl, ⟨rfl, ⟨rfl, ⟨rfl, trivial⟩⟩⟩⟩ ?_
      exact s_Model_call_L134    hJ
    · have hJ := hJ.2 c
      refine zq_iconst (v := 2) d_Model_call_129 zk_i2 ?_
      refine zq_goto (tgt := 134) d_Model_call_130 (by decide) ?_
      refine zr_less (L' := [some (.ref 33), some (.int x1), some (.int x2), some (.int x3), none]) ⟨rfl, ⟨rfl, ⟨rfl, ⟨rfl, trivial⟩⟩⟩⟩ ?_
      exact s_Model_call_L134    hJ
  · have hJ := hJ.2 c
    refine zq_iconst (v := 3) d_Model_call_120 zk_i3 ?_
    refine zq_goto (tgt := 134) d_Model_call_121 (by decide) ?_
    refine zr_less (L' := [some (.ref 33), some (.int x1), some (.int x2), some (.int x3), none]) ⟨rfl, ⟨rfl, ⟨rfl, ⟨rfl, trivial⟩⟩⟩⟩ ?_
    exact s_Model_call_L134    hJ
set_option maxHeartbeats 400000 in
theorem s_Model_call_L53 {g : zk_T} {K : zm → Prop} : ∀ (n : Nat) {x1 : Int32} {x2 : Int32} {x3 : Int32} {x4 : Int32} {m : zm}, j_Model_call_L53   K n x1 x2 x3 x4 m → zq_V (zk_g g) ("RiichiTableModel", prog_9_method_59_code, 5, none, false, zq_rm 2 0 0) 0 0 53 [some (.ref 33), some (.int x1), some (.int x2), some (.int x3), some (.int x4)] [] (zm_hp m) (zm_QV K) := by
  intro n
  induction n with
  | zero =>
    intro x1 x2 x3 x4 m hJ
    exact False.elim hJ
  | succ n ih =>
    intro x1 x2 x3 x4 m hJ
    rw [j_Model_call_L53] at hJ
    refine zq_iload d_Model_call_53 rfl ?_
    refine zq_iload_n d_Model_call_55 rfl rfl ?_
    refine zq_iconst (v := 3) d_Model_call_56 zk_i3 ?_
    refine zq_iadd d_Model_call_57 ?_
    refine zq_icmp_ge (tgt := 100) d_Model_call_58 (by decide) (fun c => ?_) (fun c => ?_)
    · have hJ := hJ.1 c
      refine zr_less (L' := [some (.ref 33), some (.int x1), some (.int x2), some (.int x3), none]) ⟨rfl, ⟨rfl, ⟨rfl, ⟨rfl, trivial⟩⟩⟩⟩ ?_
      exact s_Model_call_L100    hJ
    · have hJ := hJ.2 c
      refine zq_iload_n d_Model_call_61 rfl rfl ?_
      refine zq_if_ne (tgt := 100) d_Model_call_62 (by decide) (fun c => ?_) (fun c => ?_)
      · have hJ := hJ.1 c
        refine zr_less (L' := [some (.ref 33), some (.int x1), some (.int x2), some (.int x3), none]) ⟨rfl, ⟨rfl, ⟨rfl, ⟨rfl, trivial⟩⟩⟩⟩ ?_
        exact s_Model_call_L100    hJ
      · have hJ := hJ.2 c
        refine zq_aload_n d_Model_call_65 rfl rfl ?_
        refine zm_getR fg_Model_16 d_Model_call_66 zs_Model rfl ?_
        refine zq_bipush (v := 34) d_Model_call_69 zk_b34 ?_
        refine zq_iload_n d_Model_call_71 rfl rfl ?_
        refine zq_imul d_Model_call_72 ?_
        refine zq_iload d_Model_call_73 rfl ?_
        refine zq_iadd d_Model_call_75 ?_
        refine zq_dup2 d_Model_call_76 rfl rfl ?_
        obtain ⟨hb, hJ⟩ := hJ
        refine zm_ald d_Model_call_77 (rfl : zm_sh[36]? = some (.inl (0, 136, .inl (fun _ => 0)))) hb ?_
        refine zq_iload d_Model_call_78 rfl ?_
        refine zq_aload_n d_Model_call_80 rfl rfl ?_
        refine zm_getI fg_Model_309 d_Model_call_81 zs_Model rfl ?_
        refine zq_icmp_ne (tgt := 91) d_Model_call_84 (by decide) (fun c => ?_) (fun c => ?_)
        · have hJ := hJ.1 c
          refine zq_iconst (v := 1) d_Model_call_91 zk_i1 ?_
          refine zr_less (L' := [some (.ref 33), some (.int x1), some (.int x2), some (.int x3), some (.int x4)]) ⟨rfl, ⟨rfl, ⟨rfl, ⟨rfl, ⟨rfl, trivial⟩⟩⟩⟩⟩ ?_
          exact s_Model_call_L92  ih  hJ
        · have hJ := hJ.2 c
          refine zq_iconst (v := 0) d_Model_call_87 zk_i0 ?_
          refine zq_goto (tgt := 92) d_Model_call_88 (by decide) ?_
          refine zr_less (L' := [some (.ref 33), some (.int x1), some (.int x2), some (.int x3), some (.int x4)]) ⟨rfl, ⟨rfl, ⟨rfl, ⟨rfl, ⟨rfl, trivial⟩⟩⟩⟩⟩ ?_
          exact s_Model_call_L92  ih  hJ
set_option maxHeartbeats 400000 in
theorem s_Model_call_L49 {g : zk_T} {K : zm → Prop} {x1 : Int32} {x2 : Int32} {t0 : Int32} {m : zm} (hJ : j_Model_call_L49   K x1 x2 t0 m) : zq_V (zk_g g) ("RiichiTableModel", prog_9_method_59_code, 5, none, false, zq_rm 2 0 0) 0 0 49 [some (.ref 33), some (.int x1), some (.int x2), none, none] [.int t0] (zm_hp m) (zm_QV K) := by
  unfold j_Model_call_L49 at hJ
  refine zr_istore_n (L' := [some (.ref 33), some (.int x1), some (.int x2), some (.int t0), none]) d_Model_call_49 rfl (Nat.le_of_ble_eq_true rfl) rfl ?_
  refine zq_iload_n d_Model_call_50 rfl rfl ?_
  refine zr_istore (L' := [some (.ref 33), some (.int x1), some (.int x2), some (.int t0), some (.int t0)]) d_Model_call_51 (Nat.le_of_ble_eq_true rfl) rfl ?_
  refine zr_less (L' := [some (.ref 33), some (.int x1), some (.int x2), some (.int t0), some (.int t0)]) ⟨rfl, ⟨rfl, ⟨rfl, ⟨rfl, ⟨rfl, trivial⟩⟩⟩⟩⟩ ?_
  obtain ⟨n53, hJ⟩ := hJ
  exact s_Model_call_L53   n53  hJ
set_option maxHeartbeats 400000 in
theorem s_Model_call_L32 {g : zk_T} {K : zm → Prop} {x1 : Int32} {x2 : Int32} {m : zm} (hJ : j_Model_call_L32   K x1 x2 m) : zq_V (zk_g g) ("RiichiTableModel", prog_9_method_59_code, 5, none, false, zq_rm 2 0 0) 0 0 32 [some (.ref 33), some (.int x1), some (.int x2), none, none] [] (zm_hp m) (zm_QV K) := by
  unfold j_Model_call_L32 at hJ
  refine zq_iload_n d_Model_call_32 rfl rfl ?_
  refine zq_if_ne (tgt := 45) d_Model_call_33 (by decide) (fun c => ?_) (fun c => ?_)
  · have hJ := hJ.1 c
    refine zq_aload_n d_Model_call_45 rfl rfl ?_
    refine zm_getI fg_Model_309 d_Model_call_46 zs_Model rfl ?_
    refine zr_less (L' := [some (.ref 33), some (.int x1), some (.int x2), none, none]) ⟨rfl, ⟨rfl, ⟨rfl, trivial⟩⟩⟩ ?_
    exact s_Model_call_L49    hJ
  · have hJ := hJ.2 c
    refine zq_aload_n d_Model_call_36 rfl rfl ?_
    refine zm_getR fg_Model_50 d_Model_call_37 zs_Model rfl ?_
    refine zq_iload_n d_Model_call_40 rfl rfl ?_
    obtain ⟨hb, hJ⟩ := hJ
    refine zm_ald d_Model_call_41 (rfl : zm_sh[47]? = some (.inl (0, 4, .inl (fun _ => 0)))) hb ?_
    refine zq_goto (tgt := 49) d_Model_call_42 (by decide) ?_
    refine zr_less (L' := [some (.ref 33), some (.int x1), some (.int x2), none, none]) ⟨rfl, ⟨rfl, ⟨rfl, trivial⟩⟩⟩ ?_
    exact s_Model_call_L49    hJ
set_option maxHeartbeats 400000 in
theorem s_Model_call_L20 {g : zk_T} {K : zm → Prop} {x1 : Int32} {x2 : Int32} {m : zm} (hJ : j_Model_call_L20   K x1 x2 m) : zq_V (zk_g g) ("RiichiTableModel", prog_9_method_59_code, 5, none, false, zq_rm 2 0 0) 0 0 20 [some (.ref 33), some (.int x1), some (.int x2), none, none] [] (zm_hp m) (zm_QV K) := by
  unfold j_Model_call_L20 at hJ
  refine zq_iload_n d_Model_call_20 rfl rfl ?_
  refine zq_if_ge (tgt := 32) d_Model_call_21 (by decide) (fun c => ?_) (fun c => ?_)
  · have hJ := hJ.1 c
    refine zr_less (L' := [some (.ref 33), some (.int x1), some (.int x2), none, none]) ⟨rfl, ⟨rfl, ⟨rfl, trivial⟩⟩⟩ ?_
    exact s_Model_call_L32    hJ
  · have hJ := hJ.2 c
    refine zq_aload_n d_Model_call_24 rfl rfl ?_
    refine zq_iconst (v := 1) d_Model_call_25 zk_i1 ?_
    refine zr_cvI (q := 33) (as := [.int 1]) (st := []) d_Model_call_26 cc_Model_331 cv_Model_answered zs_Model (s_Model_answered  hJ) rfl ⟨Nat.le_of_ble_eq_true rfl, Nat.le_of_ble_eq_true rfl⟩ (Nat.le_of_ble_eq_true rfl) ⟨Nat.le_refl _, Nat.le_refl _⟩ rfl (fun r6 m5 hJ => ?_)
    refine zr_istore_n (L' := [some (.ref 33), some (.int r6), some (.int x2), none, none]) d_Model_call_29 rfl (Nat.le_of_ble_eq_true rfl) rfl ?_
    refine zq_iconst (v := 0) d_Model_call_30 zk_i0 ?_
    refine zr_istore_n (L' := [some (.ref 33), some (.int r6), some (.int 0), none, none]) d_Model_call_31 rfl (Nat.le_of_ble_eq_true rfl) rfl ?_
    refine zr_less (L' := [some (.ref 33), some (.int r6), some (.int 0), none, none]) ⟨rfl, ⟨rfl, ⟨rfl, trivial⟩⟩⟩ ?_
    exact s_Model_call_L32    hJ
set_option maxHeartbeats 400000 in
theorem s_Model_call {g : zk_T} {K : zm → Prop} {m : zm} (hJ : j_Model_call  m K) : zq_Mt (zk_g g) y_Model_call 2 0 0 [.ref 33] (zm_hp m) (zm_QV K) := by
  unfold j_Model_call at hJ
  refine zq_meth (ini := false) rfl (fun h => by cases h) (Nat.le_of_ble_eq_true rfl) ?_
  refine zr_L (F := ("RiichiTableModel", prog_9_method_59_code, 5, none, false, zq_rm 2 0 0)) (L' := [some (.ref 33), none, none, none, none]) rfl ?_
  refine zq_aload_n d_Model_call_0 rfl rfl ?_
  refine zq_iconst (v := 3) d_Model_call_1 zk_i3 ?_
  refine zr_cvI (q := 33) (as := [.int 3]) (st := []) d_Model_call_2 cc_Model_331 cv_Model_answered zs_Model (s_Model_answered  hJ) rfl ⟨Nat.le_of_ble_eq_true rfl, Nat.le_of_ble_eq_true rfl⟩ (Nat.le_of_ble_eq_true rfl) ⟨Nat.le_refl _, Nat.le_refl _⟩ rfl (fun r2 m1 hJ => ?_)
  refine zr_istore_n (L' := [some (.ref 33), some (.int r2), none, none, none]) d_Model_call_5 rfl (Nat.le_of_ble_eq_true rfl) rfl ?_
  refine zq_iconst (v := 2) d_Model_call_6 zk_i2 ?_
  refine zr_istore_n (L' := [some (.ref 33), some (.int r2), some (.int 2), none, none]) d_Model_call_7 rfl (Nat.le_of_ble_eq_true rfl) rfl ?_
  refine zq_iload_n d_Model_call_8 rfl rfl ?_
  refine zq_if_ge (tgt := 20) d_Model_call_9 (by decide) (fun c => ?_) (fun c => ?_)
  · have hJ := hJ.1 c
    refine zr_less (L' := [some (.ref 33), some (.int r2), some (.int 2), none, none]) ⟨rfl, ⟨rfl, ⟨rfl, trivial⟩⟩⟩ ?_
    exact s_Model_call_L20    hJ
  · have hJ := hJ.2 c
    refine zq_aload_n d_Model_call_12 rfl rfl ?_
    refine zq_iconst (v := 2) d_Model_call_13 zk_i2 ?_
    refine zr_cvI (q := 33) (as := [.int 2]) (st := []) d_Model_call_14 cc_Model_331 cv_Model_answered zs_Model (s_Model_answered  hJ) rfl ⟨Nat.le_of_ble_eq_true rfl, Nat.le_of_ble_eq_true rfl⟩ (Nat.le_of_ble_eq_true rfl) ⟨Nat.le_refl _, Nat.le_refl _⟩ rfl (fun r4 m3 hJ => ?_)
    refine zr_istore_n (L' := [some (.ref 33), some (.int r4), some (.int 2), none, none]) d_Model_call_17 rfl (Nat.le_of_ble_eq_true rfl) rfl ?_
    refine zq_iconst (v := 1) d_Model_call_18 zk_i1 ?_
    refine zr_istore_n (L' := [some (.ref 33), some (.int r4), some (.int 1), none, none]) d_Model_call_19 rfl (Nat.le_of_ble_eq_true rfl) rfl ?_
    refine zr_less (L' := [some (.ref 33), some (.int r4), some (.int 1), none, none]) ⟨rfl, ⟨rfl, ⟨rfl, trivial⟩⟩⟩ ?_
    exact s_Model_call_L20    hJ
set_option maxHeartbeats 400000 in
theorem s_Model_tripletPlace_L50 {g : zk_T} {a1 : Int32} {a2 : Int32} {R7 : Int32 → Int32 → zm → Prop} {K : Int32 → zm → Prop} (hR7 : ∀ {x3 : Int32} {x4 : Int32} {m : zm}, R7 x3 x4 m → zq_V (zk_g g) ("RiichiTableModel", prog_9_method_61_code, 5, (some .int), false, zq_rm 0 0 0) 0 0 7 [some (.ref 33), some (.int a1), some (.int a2), some (.int x3), some (.int x4)] [] (zm_hp m) (zm_QI K)) {x4 : Int32} {t0 : Int32} {m : zm} (hJ : j_Model_tripletPlace_L50 a1 a2 R7 K x4 t0 m) : zq_V (zk_g g) ("RiichiTableModel", prog_9_method_61_code, 5, (some .int), false, zq_rm 0 0 0) 0 0 50 [some (.ref 33), some (.int a1), some (.int a2), none, some (.int x4)] [.int t0] (zm_hp m) (zm_QI K) := by
  unfold j_Model_tripletPlace_L50 at hJ
  refine zr_istore_n (L' := [some (.ref 33), some (.int a1), some (.int a2), some (.int t0), some (.int x4)]) d_Model_tripletPlace_50 rfl (Nat.le_of_ble_eq_true rfl) rfl ?_
  refine zr_iinc (d' := 1) d_Model_tripletPlace_51 zk_i1 rfl (Nat.le_of_ble_eq_true rfl) (fun y2 hy2 => ?_)
  have hJ := hJ y2 hy2
  refine zr_L (L' := [some (.ref 33), some (.int a1), some (.int a2), some (.int t0), some (.int y2)]) rfl ?_
  refine zq_goto (tgt := 7) d_Model_tripletPlace_54 (by decide) ?_
  refine zr_less (L' := [some (.ref 33), some (.int a1), some (.int a2), some (.int t0), some (.int y2)]) ⟨rfl, ⟨rfl, ⟨rfl, ⟨rfl, ⟨rfl, trivial⟩⟩⟩⟩⟩ ?_
  exact hR7  hJ
set_option maxHeartbeats 400000 in
theorem s_Model_tripletPlace_L49 {g : zk_T} {a1 : Int32} {a2 : Int32} {R7 : Int32 → Int32 → zm → Prop} {K : Int32 → zm → Prop} (hR7 : ∀ {x3 : Int32} {x4 : Int32} {m : zm}, R7 x3 x4 m → zq_V (zk_g g) ("RiichiTableModel", prog_9_method_61_code, 5, (some .int), false, zq_rm 0 0 0) 0 0 7 [some (.ref 33), some (.int a1), some (.int a2), some (.int x3), some (.int x4)] [] (zm_hp m) (zm_QI K)) {x3 : Int32} {x4 : Int32} {m : zm} (hJ : j_Model_tripletPlace_L49 a1 a2 R7 K x3 x4 m) : zq_V (zk_g g) ("RiichiTableModel", prog_9_method_61_code, 5, (some .int), false, zq_rm 0 0 0) 0 0 49 [some (.ref 33), some (.int a1), some (.int a2), some (.int x3), some (.int x4)] [] (zm_hp m) (zm_QI K) := by
  unfold j_Model_tripletPlace_L49 at hJ
  refine zq_iload_n d_Model_tripletPlace_49 rfl rfl ?_
  refine zr_less (L' := [some (.ref 33), some (.int a1), some (.int a2), none, some (.int x4)]) ⟨rfl, ⟨rfl, ⟨rfl, ⟨rfl, trivial⟩⟩⟩⟩ ?_
  exact s_Model_tripletPlace_L50  hR7  hJ
set_option maxHeartbeats 400000 in
theorem s_Model_tripletPlace_L7 {g : zk_T} {a1 : Int32} {a2 : Int32} {K : Int32 → zm → Prop} : ∀ (n : Nat) {x3 : Int32} {x4 : Int32} {m : zm}, j_Model_tripletPlace_L7 a1 a2  K n x3 x4 m → zq_V (zk_g g) ("RiichiTableModel", prog_9_method_61_code, 5, (some .int), false, zq_rm 0 0 0) 0 0 7 [some (.ref 33), some (.int a1), some (.int a2), some (.int x3), some (.int x4)] [] (zm_hp m) (zm_QI K) := by
  intro n
  induction n with
  | zero =>
    intro x3 x4 m hJ
    exact False.elim hJ
  | succ n ih =>
    intro x3 x4 m hJ
    rw [j_Model_tripletPlace_L7] at hJ
    refine zq_iload d_Model_tripletPlace_7 rfl ?_
    refine zq_iconst (v := 4) d_Model_tripletPlace_9 zk_i4 ?_
    refine zq_iload_n d_Model_tripletPlace_10 rfl rfl ?_
    refine zq_imul d_Model_tripletPlace_11 ?_
    refine zq_aload_n d_Model_tripletPlace_12 rfl rfl ?_
    refine zm_getR fg_Model_19 d_Model_tripletPlace_13 zs_Model rfl ?_
    refine zq_iload_n d_Model_tripletPlace_16 rfl rfl ?_
    obtain ⟨hb, hJ⟩ := hJ
    refine zm_ald d_Model_tripletPlace_17 (rfl : zm_sh[37]? = some (.inl (0, 4, .inl (fun _ => 0)))) hb ?_
    refine zq_iadd d_Model_tripletPlace_18 ?_
    refine zq_icmp_ge (tgt := 57) d_Model_tripletPlace_19 (by decide) (fun c => ?_) (fun c => ?_)
    · have hJ := hJ.1 c
      refine zq_iload_n d_Model_tripletPlace_57 rfl rfl ?_
      exact zq_iret d_Model_tripletPlace_58 rfl rfl (Nat.le_refl _) (Nat.le_refl _) ⟨_, _, rfl, rfl, hJ⟩
    · have hJ := hJ.2 c
      refine zq_aload_n d_Model_tripletPlace_22 rfl rfl ?_
      refine zm_getR fg_Model_25 d_Model_tripletPlace_23 zs_Model rfl ?_
      refine zq_iload d_Model_tripletPlace_26 rfl ?_
      obtain ⟨hb, hJ⟩ := hJ
      refine zm_ald d_Model_tripletPlace_28 (rfl : zm_sh[39]? = some (.inl (0, 16, .inl (fun _ => 0)))) hb ?_
      refine zq_iconst (v := 1) d_Model_tripletPlace_29 zk_i1 ?_
      refine zq_icmp_ne (tgt := 49) d_Model_tripletPlace_30 (by decide) (fun c => ?_) (fun c => ?_)
      · have hJ := hJ.1 c
        refine zr_less (L' := [some (.ref 33), some (.int a1), some (.int a2), some (.int x3), some (.int x4)]) ⟨rfl, ⟨rfl, ⟨rfl, ⟨rfl, ⟨rfl, trivial⟩⟩⟩⟩⟩ ?_
        exact s_Model_tripletPlace_L49  ih  hJ
      · have hJ := hJ.2 c
        refine zq_aload_n d_Model_tripletPlace_33 rfl rfl ?_
        refine zm_getR fg_Model_22 d_Model_tripletPlace_34 zs_Model rfl ?_
        refine zq_iload d_Model_tripletPlace_37 rfl ?_
        obtain ⟨hb, hJ⟩ := hJ
        refine zm_ald d_Model_tripletPlace_39 (rfl : zm_sh[38]? = some (.inl (0, 16, .inl (fun _ => 0)))) hb ?_
        refine zq_iload_n d_Model_tripletPlace_40 rfl rfl ?_
        refine zq_icmp_ne (tgt := 49) d_Model_tripletPlace_41 (by decide) (fun c => ?_) (fun c => ?_)
        · have hJ := hJ.1 c
          refine zr_less (L' := [some (.ref 33), some (.int a1), some (.int a2), some (.int x3), some (.int x4)]) ⟨rfl, ⟨rfl, ⟨rfl, ⟨rfl, ⟨rfl, trivial⟩⟩⟩⟩⟩ ?_
          exact s_Model_tripletPlace_L49  ih  hJ
        · have hJ := hJ.2 c
          refine zq_iload d_Model_tripletPlace_44 rfl ?_
          refine zq_goto (tgt := 50) d_Model_tripletPlace_46 (by decide) ?_
          refine zr_less (L' := [some (.ref 33), some (.int a1), some (.int a2), none, some (.int x4)]) ⟨rfl, ⟨rfl, ⟨rfl, ⟨rfl, trivial⟩⟩⟩⟩ ?_
          exact s_Model_tripletPlace_L50  ih  hJ
set_option maxHeartbeats 400000 in
theorem s_Model_tripletPlace {g : zk_T} {a1 : Int32} {a2 : Int32} {K : Int32 → zm → Prop} {m : zm} (hJ : j_Model_tripletPlace a1 a2 m K) : zq_Mt (zk_g g) y_Model_tripletPlace 0 0 0 [.ref 33, .int a1, .int a2] (zm_hp m) (zm_QI K) := by
  unfold j_Model_tripletPlace at hJ
  refine zq_meth (ini := false) rfl (fun h => by cases h) (Nat.le_of_ble_eq_true rfl) ?_
  refine zr_L (F := ("RiichiTableModel", prog_9_method_61_code, 5, (some .int), false, zq_rm 0 0 0)) (L' := [some (.ref 33), some (.int a1), some (.int a2), none, none]) rfl ?_
  refine zq_iconst (v := (-1)) d_Model_tripletPlace_0 zk_im1 ?_
  refine zr_istore_n (L' := [some (.ref 33), some (.int a1), some (.int a2), some (.int (-1)), none]) d_Model_tripletPlace_1 rfl (Nat.le_of_ble_eq_true rfl) rfl ?_
  refine zq_iconst (v := 4) d_Model_tripletPlace_2 zk_i4 ?_
  refine zq_iload_n d_Model_tripletPlace_3 rfl rfl ?_
  refine zq_imul d_Model_tripletPlace_4 ?_
  refine zr_topi (fun y1 hy1 => ?_)
  have hJ := hJ y1 hy1
  refine zr_istore (L' := [some (.ref 33), some (.int a1), some (.int a2), some (.int (-1)), some (.int y1)]) d_Model_tripletPlace_5 (Nat.le_of_ble_eq_true rfl) rfl ?_
  refine zr_less (L' := [some (.ref 33), some (.int a1), some (.int a2), some (.int (-1)), some (.int y1)]) ⟨rfl, ⟨rfl, ⟨rfl, ⟨rfl, ⟨rfl, trivial⟩⟩⟩⟩⟩ ?_
  obtain ⟨n7, hJ⟩ := hJ
  exact s_Model_tripletPlace_L7   n7  hJ
set_option maxHeartbeats 400000 in
theorem s_Model_completeAdded {g : zk_T} {K : zm → Prop} {m : zm} (hJ : j_Model_completeAdded  m K) : zq_Mt (zk_g g) y_Model_completeAdded 2 0 0 [.ref 33] (zm_hp m) (zm_QV K) := by
  unfold j_Model_completeAdded at hJ
  refine zq_meth (ini := false) rfl (fun h => by cases h) (Nat.le_of_ble_eq_true rfl) ?_
  refine zr_L (F := ("RiichiTableModel", prog_9_method_62_code, 2, none, false, zq_rm 2 0 0)) (L' := [some (.ref 33), none]) rfl ?_
  refine zq_aload_n d_Model_completeAdded_0 rfl rfl ?_
  refine zq_aload_n d_Model_completeAdded_1 rfl rfl ?_
  refine zm_getI fg_Model_113 d_Model_completeAdded_2 zs_Model rfl ?_
  refine zq_aload_n d_Model_completeAdded_5 rfl rfl ?_
  refine zm_getI fg_Model_309 d_Model_completeAdded_6 zs_Model rfl ?_
  refine zr_cvI (q := 33) (as := [.int (m.1 33 4), .int (m.1 33 24)]) (st := []) d_Model_completeAdded_9 cc_Model_359 cv_Model_tripletPlace zs_Model (s_Model_tripletPlace  hJ) rfl ⟨Nat.le_of_ble_eq_true rfl, Nat.le_of_ble_eq_true rfl⟩ (Nat.le_of_ble_eq_true rfl) ⟨Nat.le_refl _, Nat.le_refl _⟩ rfl (fun r2 m1 hJ => ?_)
  refine zr_istore_n (L' := [some (.ref 33), some (.int r2)]) d_Model_completeAdded_12 rfl (Nat.le_of_ble_eq_true rfl) rfl ?_
  refine zq_aload_n d_Model_completeAdded_13 rfl rfl ?_
  refine zm_getR fg_Model_25 d_Model_completeAdded_14 zs_Model rfl ?_
  refine zq_iload_n d_Model_completeAdded_17 rfl rfl ?_
  refine zq_iconst (v := 2) d_Model_completeAdded_18 zk_i2 ?_
  obtain ⟨hb, hJ⟩ := hJ
  refine zr_ast d_Model_completeAdded_19 (rfl : zm_sh[39]? = some (.inl (0, 16, .inl (fun _ => 0)))) hb (fun m3 hm3 => ?_)
  have hJ := hJ m3 hm3
  refine zq_aload_n d_Model_completeAdded_20 rfl rfl ?_
  refine zq_aload_n d_Model_completeAdded_21 rfl rfl ?_
  refine zm_getI fg_Model_113 d_Model_completeAdded_22 zs_Model rfl ?_
  refine zr_cvV (q := 33) (as := [.int (m3.1 33 4)]) (st := []) d_Model_completeAdded_25 cc_Model_356 cv_Model_completeQuad zs_Model (s_Model_completeQuad  hJ) rfl ⟨Nat.le_of_ble_eq_true rfl, Nat.le_of_ble_eq_true rfl⟩ (Nat.le_of_ble_eq_true rfl) ⟨Nat.le_refl _, Nat.le_refl _⟩ rfl (fun m4 hJ => ?_)
  exact zq_vret d_Model_completeAdded_28 rfl (Nat.le_refl _) (Nat.le_refl _) ⟨_, rfl, rfl, hJ⟩
set_option maxHeartbeats 400000 in
theorem s_Model_payStick_L37 {g : zk_T} {K : zm → Prop} {m : zm} (hJ : j_Model_payStick_L37   K  m) : zq_V (zk_g g) ("RiichiTableModel", prog_9_method_56_code, 1, none, false, zq_rm 0 0 0) 0 0 37 [some (.ref 33)] [] (zm_hp m) (zm_QV K) := by
  unfold j_Model_payStick_L37 at hJ
  exact zq_vret d_Model_payStick_37 rfl (Nat.le_refl _) (Nat.le_refl _) ⟨_, rfl, rfl, hJ⟩
set_option maxHeartbeats 400000 in
theorem s_Model_payStick {g : zk_T} {K : zm → Prop} {m : zm} (hJ : j_Model_payStick  m K) : zq_Mt (zk_g g) y_Model_payStick 0 0 0 [.ref 33] (zm_hp m) (zm_QV K) := by
  unfold j_Model_payStick at hJ
  refine zq_meth (ini := false) rfl (fun h => by cases h) (Nat.le_of_ble_eq_true rfl) ?_
  refine zr_L (F := ("RiichiTableModel", prog_9_method_56_code, 1, none, false, zq_rm 0 0 0)) (L' := [some (.ref 33)]) rfl ?_
  refine zq_aload_n d_Model_payStick_0 rfl rfl ?_
  refine zm_getI fg_Model_106 d_Model_payStick_1 zs_Model rfl ?_
  refine zq_if_lt (tgt := 37) d_Model_payStick_4 (by decide) (fun c => ?_) (fun c => ?_)
  · have hJ := hJ.1 c
    refine zr_less (L' := [some (.ref 33)]) ⟨rfl, trivial⟩ ?_
    exact s_Model_payStick_L37    hJ
  · have hJ := hJ.2 c
    refine zq_aload_n d_Model_payStick_7 rfl rfl ?_
    refine zm_getR fg_Model_13 d_Model_payStick_8 zs_Model rfl ?_
    refine zq_aload_n d_Model_payStick_11 rfl rfl ?_
    refine zm_getI fg_Model_106 d_Model_payStick_12 zs_Model rfl ?_
    refine zq_dup2 d_Model_payStick_15 rfl rfl ?_
    obtain ⟨hb, hJ⟩ := hJ
    refine zm_ald d_Model_payStick_16 (rfl : zm_sh[35]? = some (.inl (0, 4, .inl (fun _ => 0)))) hb ?_
    refine zq_sipush (v := 1000) d_Model_payStick_17 zk_s1000 ?_
    refine zq_isub d_Model_payStick_20 ?_
    obtain ⟨hb, hJ⟩ := hJ
    refine zr_ast d_Model_payStick_21 (rfl : zm_sh[35]? = some (.inl (0, 4, .inl (fun _ => 0)))) hb (fun m1 hm1 => ?_)
    have hJ := hJ m1 hm1
    refine zq_aload_n d_Model_payStick_22 rfl rfl ?_
    refine zq_dup d_Model_payStick_23 rfl ?_
    refine zm_getI fg_Model_346 d_Model_payStick_24 zs_Model rfl ?_
    refine zq_iconst (v := 1) d_Model_payStick_27 zk_i1 ?_
    refine zq_iadd d_Model_payStick_28 ?_
    refine zr_putI fl_Model_346 d_Model_payStick_29 zs_Model rfl rfl (fun m2 hm2 => ?_)
    have hJ := hJ m2 hm2
    refine zq_aload_n d_Model_payStick_32 rfl rfl ?_
    refine zq_iconst (v := (-1)) d_Model_payStick_33 zk_im1 ?_
    refine zr_putI fl_Model_106 d_Model_payStick_34 zs_Model rfl rfl (fun m3 hm3 => ?_)
    have hJ := hJ m3 hm3
    refine zr_less (L' := [some (.ref 33)]) ⟨rfl, trivial⟩ ?_
    exact s_Model_payStick_L37    hJ
set_option maxHeartbeats 400000 in
theorem s_Model_keep {g : zk_T} {a1 : Int32} {a2 : Int32} {K : zm → Prop} {m : zm} (hJ : j_Model_keep a1 a2 m K) : zq_Mt (zk_g g) y_Model_keep 0 0 0 [.ref 33, .int a1, .int a2] (zm_hp m) (zm_QV K) := by
  unfold j_Model_keep at hJ
  refine zq_meth (ini := false) rfl (fun h => by cases h) (Nat.le_of_ble_eq_true rfl) ?_
  refine zr_L (F := ("RiichiTableModel", prog_9_method_65_code, 3, none, false, zq_rm 0 0 0)) (L' := [some (.ref 33), some (.int a1), some (.int a2)]) rfl ?_
  refine zq_aload_n d_Model_keep_0 rfl rfl ?_
  refine zm_getR fg_Model_53 d_Model_keep_1 zs_Model rfl ?_
  refine zq_iconst (v := 4) d_Model_keep_4 zk_i4 ?_
  refine zq_iload_n d_Model_keep_5 rfl rfl ?_
  refine zq_imul d_Model_keep_6 ?_
  refine zq_aload_n d_Model_keep_7 rfl rfl ?_
  refine zm_getI fg_Model_260 d_Model_keep_8 zs_Model rfl ?_
  obtain ⟨hb, hJ⟩ := hJ
  refine zr_ast d_Model_keep_11 (rfl : zm_sh[48]? = some (.inl (0, 16, .inl (fun _ => 0)))) hb (fun m1 hm1 => ?_)
  have hJ := hJ m1 hm1
  refine zq_aload_n d_Model_keep_12 rfl rfl ?_
  refine zm_getR fg_Model_53 d_Model_keep_13 zs_Model rfl ?_
  refine zq_iconst (v := 4) d_Model_keep_16 zk_i4 ?_
  refine zq_iload_n d_Model_keep_17 rfl rfl ?_
  refine zq_imul d_Model_keep_18 ?_
  refine zq_iconst (v := 1) d_Model_keep_19 zk_i1 ?_
  refine zq_iadd d_Model_keep_20 ?_
  refine zq_aload_n d_Model_keep_21 rfl rfl ?_
  refine zm_getI fg_Model_263 d_Model_keep_22 zs_Model rfl ?_
  obtain ⟨hb, hJ⟩ := hJ
  refine zr_ast d_Model_keep_25 (rfl : zm_sh[48]? = some (.inl (0, 16, .inl (fun _ => 0)))) hb (fun m2 hm2 => ?_)
  have hJ := hJ m2 hm2
  refine zq_aload_n d_Model_keep_26 rfl rfl ?_
  refine zm_getR fg_Model_53 d_Model_keep_27 zs_Model rfl ?_
  refine zq_iconst (v := 4) d_Model_keep_30 zk_i4 ?_
  refine zq_iload_n d_Model_keep_31 rfl rfl ?_
  refine zq_imul d_Model_keep_32 ?_
  refine zq_iconst (v := 2) d_Model_keep_33 zk_i2 ?_
  refine zq_iadd d_Model_keep_34 ?_
  refine zq_aload_n d_Model_keep_35 rfl rfl ?_
  refine zm_getI fg_Model_257 d_Model_keep_36 zs_Model rfl ?_
  obtain ⟨hb, hJ⟩ := hJ
  refine zr_ast d_Model_keep_39 (rfl : zm_sh[48]? = some (.inl (0, 16, .inl (fun _ => 0)))) hb (fun m3 hm3 => ?_)
  have hJ := hJ m3 hm3
  refine zq_aload_n d_Model_keep_40 rfl rfl ?_
  refine zm_getR fg_Model_53 d_Model_keep_41 zs_Model rfl ?_
  refine zq_iconst (v := 4) d_Model_keep_44 zk_i4 ?_
  refine zq_iload_n d_Model_keep_45 rfl rfl ?_
  refine zq_imul d_Model_keep_46 ?_
  refine zq_iconst (v := 3) d_Model_keep_47 zk_i3 ?_
  refine zq_iadd d_Model_keep_48 ?_
  refine zq_iload_n d_Model_keep_49 rfl rfl ?_
  obtain ⟨hb, hJ⟩ := hJ
  refine zr_ast d_Model_keep_50 (rfl : zm_sh[48]? = some (.inl (0, 16, .inl (fun _ => 0)))) hb (fun m4 hm4 => ?_)
  have hJ := hJ m4 hm4
  refine zq_aload_n d_Model_keep_51 rfl rfl ?_
  refine zm_getR fg_Model_56 d_Model_keep_52 zs_Model rfl ?_
  refine zq_iload_n d_Model_keep_55 rfl rfl ?_
  refine zq_aload_n d_Model_keep_56 rfl rfl ?_
  refine zm_getL fg_Model_266 d_Model_keep_57 zs_Model rfl ?_
  obtain ⟨hb, hJ⟩ := hJ
  refine zr_lst d_Model_keep_60 (rfl : zm_sh[49]? = some (.inl (1, 4, .inr (.inl (fun _ => 0))))) hb (fun m5 hm5 => ?_)
  have hJ := hJ m5 hm5
  refine zq_aload_n d_Model_keep_61 rfl rfl ?_
  refine zm_getR fg_Model_13 d_Model_keep_62 zs_Model rfl ?_
  refine zq_iload_n d_Model_keep_65 rfl rfl ?_
  refine zq_dup2 d_Model_keep_66 rfl rfl ?_
  obtain ⟨hb, hJ⟩ := hJ
  refine zm_ald d_Model_keep_67 (rfl : zm_sh[35]? = some (.inl (0, 4, .inl (fun _ => 0)))) hb ?_
  refine zq_iload_n d_Model_keep_68 rfl rfl ?_
  refine zq_iadd d_Model_keep_69 ?_
  obtain ⟨hb, hJ⟩ := hJ
  refine zr_ast d_Model_keep_70 (rfl : zm_sh[35]? = some (.inl (0, 4, .inl (fun _ => 0)))) hb (fun m6 hm6 => ?_)
  have hJ := hJ m6 hm6
  exact zq_vret d_Model_keep_71 rfl (Nat.le_refl _) (Nat.le_refl _) ⟨_, rfl, rfl, hJ⟩
set_option maxHeartbeats 400000 in
theorem s_Model_rounded {g : zk_T} {a0 : Int32} {K : Int32 → zm → Prop} {m : zm} (hJ : j_Model_rounded a0 m K) : zq_Mt (zk_g g) y_Model_rounded 0 0 0 [.int a0] (zm_hp m) (zm_QI K) := by
  unfold j_Model_rounded at hJ
  refine zq_meth (ini := false) rfl (fun h => by cases h) (Nat.le_of_ble_eq_true rfl) ?_
  refine zr_L (F := ("RiichiTableModel", prog_9_method_64_code, 1, (some .int), false, zq_rm 0 0 0)) (L' := [some (.int a0)]) rfl ?_
  refine zq_iload_n d_Model_rounded_0 rfl rfl ?_
  refine zq_bipush (v := 99) d_Model_rounded_1 zk_b99 ?_
  refine zq_iadd d_Model_rounded_3 ?_
  refine zq_bipush (v := 100) d_Model_rounded_4 zk_b100 ?_
  refine zq_idiv d_Model_rounded_6 (by decide) ?_
  refine zq_bipush (v := 100) d_Model_rounded_7 zk_b100 ?_
  refine zq_imul d_Model_rounded_9 ?_
  exact zq_iret d_Model_rounded_10 rfl rfl (Nat.le_refl _) (Nat.le_refl _) ⟨_, _, rfl, rfl, hJ⟩
set_option maxHeartbeats 400000 in
theorem s_Model_winByTile_L152 {g : zk_T} {R10 : Int32 → Int32 → Int32 → zm → Prop} {K : zm → Prop} (hR10 : ∀ {x1 : Int32} {x2 : Int32} {x3 : Int32} {m : zm}, R10 x1 x2 x3 m → zq_V (zk_g g) ("RiichiTableModel", prog_9_method_67_code, 5, none, false, zq_rm 5 0 0) 0 0 10 [some (.ref 33), some (.int x1), some (.int x2), some (.int x3), none] [] (zm_hp m) (zm_QV K)) {x1 : Int32} {x2 : Int32} {x3 : Int32} {m : zm} (hJ : j_Model_winByTile_L152  R10 K x1 x2 x3 m) : zq_V (zk_g g) ("RiichiTableModel", prog_9_method_67_code, 5, none, false, zq_rm 5 0 0) 0 0 152 [some (.ref 33), some (.int x1), some (.int x2), some (.int x3), none] [] (zm_hp m) (zm_QV K) := by
  unfold j_Model_winByTile_L152 at hJ
  refine zr_iinc (d' := 1) d_Model_winByTile_152 zk_i1 rfl (Nat.le_of_ble_eq_true rfl) (fun y12 hy12 => ?_)
  have hJ := hJ y12 hy12
  refine zr_L (L' := [some (.ref 33), some (.int x1), some (.int x2), some (.int y12), none]) rfl ?_
  refine zq_goto (tgt := 10) d_Model_winByTile_155 (by decide) ?_
  refine zr_less (L' := [some (.ref 33), some (.int x1), some (.int x2), some (.int y12), none]) ⟨rfl, ⟨rfl, ⟨rfl, ⟨rfl, trivial⟩⟩⟩⟩ ?_
  exact hR10  hJ
set_option maxHeartbeats 400000 in
theorem s_Model_winByTile_L151 {g : zk_T} {R10 : Int32 → Int32 → Int32 → zm → Prop} {K : zm → Prop} (hR10 : ∀ {x1 : Int32} {x2 : Int32} {x3 : Int32} {m : zm}, R10 x1 x2 x3 m → zq_V (zk_g g) ("RiichiTableModel", prog_9_method_67_code, 5, none, false, zq_rm 5 0 0) 0 0 10 [some (.ref 33), some (.int x1), some (.int x2), some (.int x3), none] [] (zm_hp m) (zm_QV K)) {x1 : Int32} {x3 : Int32} {t0 : Int32} {m : zm} (hJ : j_Model_winByTile_L151  R10 K x1 x3 t0 m) : zq_V (zk_g g) ("RiichiTableModel", prog_9_method_67_code, 5, none, false, zq_rm 5 0 0) 0 0 151 [some (.ref 33), some (.int x1), none, some (.int x3), none] [.int t0] (zm_hp m) (zm_QV K) := by
  unfold j_Model_winByTile_L151 at hJ
  refine zr_istore_n (L' := [some (.ref 33), some (.int x1), some (.int t0), some (.int x3), none]) d_Model_winByTile_151 rfl (Nat.le_of_ble_eq_true rfl) rfl ?_
  refine zr_less (L' := [some (.ref 33), some (.int x1), some (.int t0), some (.int x3), none]) ⟨rfl, ⟨rfl, ⟨rfl, ⟨rfl, trivial⟩⟩⟩⟩ ?_
  exact s_Model_winByTile_L152  hR10  hJ
set_option maxHeartbeats 400000 in
theorem s_Model_winByTile_L146 {g : zk_T} {R10 : Int32 → Int32 → Int32 → zm → Prop} {K : zm → Prop} (hR10 : ∀ {x1 : Int32} {x2 : Int32} {x3 : Int32} {m : zm}, R10 x1 x2 x3 m → zq_V (zk_g g) ("RiichiTableModel", prog_9_method_67_code, 5, none, false, zq_rm 5 0 0) 0 0 10 [some (.ref 33), some (.int x1), some (.int x2), some (.int x3), none] [] (zm_hp m) (zm_QV K)) {x1 : Int32} {x3 : Int32} {m : zm} (hJ : j_Model_winByTile_L146  R10 K x1 x3 m) : zq_V (zk_g g) ("RiichiTableModel", prog_9_method_67_code, 5, none, false, zq_rm 5 0 0) 0 0 146 [some (.ref 33), some (.int x1), none, some (.int x3), none] [] (zm_hp m) (zm_QV K) := by
  unfold j_Model_winByTile_L146 at hJ
  refine zq_iconst (v := 1) d_Model_winByTile_146 zk_i1 ?_
  refine zq_goto (tgt := 151) d_Model_winByTile_147 (by decide) ?_
  refine zr_less (L' := [some (.ref 33), some (.int x1), none, some (.int x3), none]) ⟨rfl, ⟨rfl, ⟨rfl, trivial⟩⟩⟩ ?_
  exact s_Model_winByTile_L151  hR10  hJ
set_option maxHeartbeats 400000 in
theorem s_Model_winByTile_L130 {g : zk_T} {R10 : Int32 → Int32 → Int32 → zm → Prop} {K : zm → Prop} (hR10 : ∀ {x1 : Int32} {x2 : Int32} {x3 : Int32} {m : zm}, R10 x1 x2 x3 m → zq_V (zk_g g) ("RiichiTableModel", prog_9_method_67_code, 5, none, false, zq_rm 5 0 0) 0 0 10 [some (.ref 33), some (.int x1), some (.int x2), some (.int x3), none] [] (zm_hp m) (zm_QV K)) {x1 : Int32} {x2 : Int32} {x3 : Int32} {t0 : Int32} {t1 : Int32} {t2 : Int32} {m : zm} (hJ : j_Model_winByTile_L130  R10 K x1 x2 x3 t0 t1 t2 m) : zq_V (zk_g g) ("RiichiTableModel", prog_9_method_67_code, 5, none, false, zq_rm 5 0 0) 0 0 130 [some (.ref 33), some (.int x1), some (.int x2), some (.int x3), none] [.int t0, .int t1, .int t2, .ref 33] (zm_hp m) (zm_QV K) := by
  unfold j_Model_winByTile_L130 at hJ
  refine zq_iadd d_Model_winByTile_130 ?_
  refine zr_cvV (q := 33) (as := [.int t2, .int (t1 + t0)]) (st := []) d_Model_winByTile_131 cc_Model_368 cv_Model_keep zs_Model (s_Model_keep  hJ) rfl ⟨Nat.le_of_ble_eq_true rfl, Nat.le_of_ble_eq_true rfl⟩ (Nat.le_of_ble_eq_true rfl) ⟨Nat.le_refl _, Nat.le_refl _⟩ rfl (fun m11 hJ => ?_)
  refine zq_iload_n d_Model_winByTile_134 rfl rfl ?_
  refine zq_if_ne (tgt := 146) d_Model_winByTile_135 (by decide) (fun c => ?_) (fun c => ?_)
  · have hJ := hJ.1 c
    refine zr_less (L' := [some (.ref 33), some (.int x1), none, some (.int x3), none]) ⟨rfl, ⟨rfl, ⟨rfl, trivial⟩⟩⟩ ?_
    exact s_Model_winByTile_L146  hR10  hJ
  · have hJ := hJ.2 c
    refine zq_iload_n d_Model_winByTile_138 rfl rfl ?_
    refine zq_aload_n d_Model_winByTile_139 rfl rfl ?_
    refine zm_getI fg_Model_96 d_Model_winByTile_140 zs_Model rfl ?_
    refine zq_icmp_ne (tgt := 150) d_Model_winByTile_143 (by decide) (fun c => ?_) (fun c => ?_)
    · have hJ := hJ.1 c
      refine zq_iconst (v := 0) d_Model_winByTile_150 zk_i0 ?_
      refine zr_less (L' := [some (.ref 33), some (.int x1), none, some (.int x3), none]) ⟨rfl, ⟨rfl, ⟨rfl, trivial⟩⟩⟩ ?_
      exact s_Model_winByTile_L151  hR10  hJ
    · have hJ := hJ.2 c
      refine zr_less (L' := [some (.ref 33), some (.int x1), none, some (.int x3), none]) ⟨rfl, ⟨rfl, ⟨rfl, trivial⟩⟩⟩ ?_
      exact s_Model_winByTile_L146  hR10  hJ
set_option maxHeartbeats 400000 in
theorem s_Model_winByTile_L92 {g : zk_T} {R10 : Int32 → Int32 → Int32 → zm → Prop} {K : zm → Prop} (hR10 : ∀ {x1 : Int32} {x2 : Int32} {x3 : Int32} {m : zm}, R10 x1 x2 x3 m → zq_V (zk_g g) ("RiichiTableModel", prog_9_method_67_code, 5, none, false, zq_rm 5 0 0) 0 0 10 [some (.ref 33), some (.int x1), some (.int x2), some (.int x3), none] [] (zm_hp m) (zm_QV K)) {x1 : Int32} {x2 : Int32} {x3 : Int32} {t0 : Int32} {t1 : Int32} {m : zm} (hJ : j_Model_winByTile_L92  R10 K x1 x2 x3 t0 t1 m) : zq_V (zk_g g) ("RiichiTableModel", prog_9_method_67_code, 5, none, false, zq_rm 5 0 0) 0 0 92 [some (.ref 33), some (.int x1), some (.int x2), some (.int x3), none] [.int t0, .int t1] (zm_hp m) (zm_QV K) := by
  unfold j_Model_winByTile_L92 at hJ
  refine zq_iadd d_Model_winByTile_92 ?_
  refine zr_topi (fun y9 hy9 => ?_)
  have hJ := hJ y9 hy9
  refine zr_istore (L' := [some (.ref 33), some (.int x1), some (.int x2), some (.int x3), some (.int y9)]) d_Model_winByTile_93 (Nat.le_of_ble_eq_true rfl) rfl ?_
  refine zq_aload_n d_Model_winByTile_95 rfl rfl ?_
  refine zm_getR fg_Model_13 d_Model_winByTile_96 zs_Model rfl ?_
  refine zq_aload_n d_Model_winByTile_99 rfl rfl ?_
  refine zm_getI fg_Model_113 d_Model_winByTile_100 zs_Model rfl ?_
  refine zq_dup2 d_Model_winByTile_103 rfl rfl ?_
  obtain ⟨hb, hJ⟩ := hJ
  refine zm_ald d_Model_winByTile_104 (rfl : zm_sh[35]? = some (.inl (0, 4, .inl (fun _ => 0)))) hb ?_
  refine zq_iload d_Model_winByTile_105 rfl ?_
  refine zq_isub d_Model_winByTile_107 ?_
  obtain ⟨hb, hJ⟩ := hJ
  refine zr_ast d_Model_winByTile_108 (rfl : zm_sh[35]? = some (.inl (0, 4, .inl (fun _ => 0)))) hb (fun m10 hm10 => ?_)
  have hJ := hJ m10 hm10
  refine zq_aload_n d_Model_winByTile_109 rfl rfl ?_
  refine zq_iload_n d_Model_winByTile_110 rfl rfl ?_
  refine zq_iload d_Model_winByTile_111 rfl ?_
  refine zq_iload_n d_Model_winByTile_113 rfl rfl ?_
  refine zq_iload_n d_Model_winByTile_114 rfl rfl ?_
  refine zq_icmp_ne (tgt := 129) d_Model_winByTile_115 (by decide) (fun c => ?_) (fun c => ?_)
  · have hJ := hJ.1 c
    refine zq_iconst (v := 0) d_Model_winByTile_129 zk_i0 ?_
    refine zr_less (L' := [some (.ref 33), some (.int x1), some (.int x2), some (.int x3), none]) ⟨rfl, ⟨rfl, ⟨rfl, ⟨rfl, trivial⟩⟩⟩⟩ ?_
    exact s_Model_winByTile_L130  hR10  hJ
  · have hJ := hJ.2 c
    refine zq_sipush (v := 1000) d_Model_winByTile_118 zk_s1000 ?_
    refine zq_aload_n d_Model_winByTile_121 rfl rfl ?_
    refine zm_getI fg_Model_346 d_Model_winByTile_122 zs_Model rfl ?_
    refine zq_imul d_Model_winByTile_125 ?_
    refine zq_goto (tgt := 130) d_Model_winByTile_126 (by decide) ?_
    refine zr_less (L' := [some (.ref 33), some (.int x1), some (.int x2), some (.int x3), none]) ⟨rfl, ⟨rfl, ⟨rfl, ⟨rfl, trivial⟩⟩⟩⟩ ?_
    exact s_Model_winByTile_L130  hR10  hJ
set_option maxHeartbeats 400000 in
theorem s_Model_winByTile_L72 {g : zk_T} {R10 : Int32 → Int32 → Int32 → zm → Prop} {K : zm → Prop} (hR10 : ∀ {x1 : Int32} {x2 : Int32} {x3 : Int32} {m : zm}, R10 x1 x2 x3 m → zq_V (zk_g g) ("RiichiTableModel", prog_9_method_67_code, 5, none, false, zq_rm 5 0 0) 0 0 10 [some (.ref 33), some (.int x1), some (.int x2), some (.int x3), none] [] (zm_hp m) (zm_QV K)) {x1 : Int32} {x2 : Int32} {x3 : Int32} {t0 : Int32} {m : zm} (hJ : j_Model_winByTile_L72  R10 K x1 x2 x3 t0 m) : zq_V (zk_g g) ("RiichiTableModel", prog_9_method_67_code, 5, none, false, zq_rm 5 0 0) 0 0 72 [some (.ref 33), some (.int x1), some (.int x2), some (.int x3), none] [.int t0] (zm_hp m) (zm_QV K) := by
  unfold j_Model_winByTile_L72 at hJ
  refine zr_csI (as := [.int t0]) (st := []) d_Model_winByTile_72 cc_Model_362 cs_Model_rounded (s_Model_rounded  hJ) rfl ⟨Nat.le_of_ble_eq_true rfl, Nat.le_of_ble_eq_true rfl⟩ (Nat.le_of_ble_eq_true rfl) ⟨Nat.le_refl _, Nat.le_refl _⟩ rfl (fun r8 m7 hJ => ?_)
  refine zq_iload_n d_Model_winByTile_75 rfl rfl ?_
  refine zq_iload_n d_Model_winByTile_76 rfl rfl ?_
  refine zq_icmp_ne (tgt := 91) d_Model_winByTile_77 (by decide) (fun c => ?_) (fun c => ?_)
  · have hJ := hJ.1 c
    refine zq_iconst (v := 0) d_Model_winByTile_91 zk_i0 ?_
    refine zr_less (L' := [some (.ref 33), some (.int x1), some (.int x2), some (.int x3), none]) ⟨rfl, ⟨rfl, ⟨rfl, ⟨rfl, trivial⟩⟩⟩⟩ ?_
    exact s_Model_winByTile_L92  hR10  hJ
  · have hJ := hJ.2 c
    refine zq_sipush (v := 300) d_Model_winByTile_80 zk_s300 ?_
    refine zq_aload_n d_Model_winByTile_83 rfl rfl ?_
    refine zm_getI fg_Model_365 d_Model_winByTile_84 zs_Model rfl ?_
    refine zq_imul d_Model_winByTile_87 ?_
    refine zq_goto (tgt := 92) d_Model_winByTile_88 (by decide) ?_
    refine zr_less (L' := [some (.ref 33), some (.int x1), some (.int x2), some (.int x3), none]) ⟨rfl, ⟨rfl, ⟨rfl, ⟨rfl, trivial⟩⟩⟩⟩ ?_
    exact s_Model_winByTile_L92  hR10  hJ
set_option maxHeartbeats 400000 in
theorem s_Model_winByTile_L10 {g : zk_T} {K : zm → Prop} : ∀ (n : Nat) {x1 : Int32} {x2 : Int32} {x3 : Int32} {m : zm}, j_Model_winByTile_L10   K n x1 x2 x3 m → zq_V (zk_g g) ("RiichiTableModel", prog_9_method_67_code, 5, none, false, zq_rm 5 0 0) 0 0 10 [some (.ref 33), some (.int x1), some (.int x2), some (.int x3), none] [] (zm_hp m) (zm_QV K) := by
  intro n
  induction n with
  | zero =>
    intro x1 x2 x3 m hJ
    exact False.elim hJ
  | succ n ih =>
    intro x1 x2 x3 m hJ
    rw [j_Model_winByTile_L10] at hJ
    refine zq_iload_n d_Model_winByTile_10 rfl rfl ?_
    refine zq_iconst (v := 4) d_Model_winByTile_11 zk_i4 ?_
    refine zq_icmp_ge (tgt := 158) d_Model_winByTile_12 (by decide) (fun c => ?_) (fun c => ?_)
    · have hJ := hJ.1 c
      refine zq_aload_n d_Model_winByTile_158 rfl rfl ?_
      refine zq_iconst (v := 0) d_Model_winByTile_159 zk_i0 ?_
      refine zr_putI fl_Model_346 d_Model_winByTile_160 zs_Model rfl rfl (fun m3 hm3 => ?_)
      have hJ := hJ m3 hm3
      refine zq_aload_n d_Model_winByTile_163 rfl rfl ?_
      refine zq_iload_n d_Model_winByTile_164 rfl rfl ?_
      refine zq_iload_n d_Model_winByTile_165 rfl rfl ?_
      refine zr_cvV (q := 33) (as := [.int x2, .int x2]) (st := []) d_Model_winByTile_166 cc_Model_371 cv_Model_end zs_Model (s_Model_end  hJ) rfl ⟨Nat.le_of_ble_eq_true rfl, Nat.le_of_ble_eq_true rfl⟩ (Nat.le_of_ble_eq_true rfl) ⟨Nat.le_refl _, Nat.le_refl _⟩ rfl (fun m4 hJ => ?_)
      exact zq_vret d_Model_winByTile_169 rfl (Nat.le_refl _) (Nat.le_refl _) ⟨_, rfl, rfl, hJ⟩
    · have hJ := hJ.2 c
      refine zq_iload_n d_Model_winByTile_15 rfl rfl ?_
      refine zq_aload_n d_Model_winByTile_16 rfl rfl ?_
      refine zm_getI fg_Model_113 d_Model_winByTile_17 zs_Model rfl ?_
      refine zq_icmp_eq (tgt := 152) d_Model_winByTile_20 (by decide) (fun c => ?_) (fun c => ?_)
      · have hJ := hJ.1 c
        refine zr_less (L' := [some (.ref 33), some (.int x1), some (.int x2), some (.int x3), none]) ⟨rfl, ⟨rfl, ⟨rfl, ⟨rfl, trivial⟩⟩⟩⟩ ?_
        exact s_Model_winByTile_L152  ih  hJ
      · have hJ := hJ.2 c
        refine zq_aload_n d_Model_winByTile_23 rfl rfl ?_
        refine zm_getR fg_Model_47 d_Model_winByTile_24 zs_Model rfl ?_
        refine zq_iload_n d_Model_winByTile_27 rfl rfl ?_
        obtain ⟨hb, hJ⟩ := hJ
        refine zm_ald d_Model_winByTile_28 (rfl : zm_sh[46]? = some (.inl (0, 4, .inl (fun _ => 0)))) hb ?_
        refine zq_iconst (v := 4) d_Model_winByTile_29 zk_i4 ?_
        refine zq_icmp_ne (tgt := 152) d_Model_winByTile_30 (by decide) (fun c => ?_) (fun c => ?_)
        · have hJ := hJ.1 c
          refine zr_less (L' := [some (.ref 33), some (.int x1), some (.int x2), some (.int x3), none]) ⟨rfl, ⟨rfl, ⟨rfl, ⟨rfl, trivial⟩⟩⟩⟩ ?_
          exact s_Model_winByTile_L152  ih  hJ
        · have hJ := hJ.2 c
          refine zq_aload_n d_Model_winByTile_33 rfl rfl ?_
          refine zq_iload_n d_Model_winByTile_34 rfl rfl ?_
          refine zq_aload_n d_Model_winByTile_35 rfl rfl ?_
          refine zm_getI fg_Model_309 d_Model_winByTile_36 zs_Model rfl ?_
          refine zq_iconst (v := 0) d_Model_winByTile_39 zk_i0 ?_
          refine zq_aload_n d_Model_winByTile_40 rfl rfl ?_
          refine zm_getI fg_Model_312 d_Model_winByTile_41 zs_Model rfl ?_
          refine zr_cvI (q := 33) (as := [.int x3, .int (m.1 33 24), .int 0, .int (m.1 33 25)]) (st := []) d_Model_winByTile_44 cc_Model_315 cv_Model_worthy zs_Model (s_Model_worthy  hJ) rfl ⟨Nat.le_of_ble_eq_true rfl, Nat.le_of_ble_eq_true rfl⟩ (Nat.le_of_ble_eq_true rfl) ⟨Nat.le_refl _, Nat.le_refl _⟩ rfl (fun r6 m5 hJ => ?_)
          refine zq_pop d_Model_winByTile_47 rfl ?_
          refine zq_iload_n d_Model_winByTile_48 rfl rfl ?_
          refine zq_aload_n d_Model_winByTile_49 rfl rfl ?_
          refine zm_getI fg_Model_96 d_Model_winByTile_50 zs_Model rfl ?_
          refine zq_icmp_ne (tgt := 66) d_Model_winByTile_53 (by decide) (fun c => ?_) (fun c => ?_)
          · have hJ := hJ.1 c
            refine zq_iconst (v := 4) d_Model_winByTile_66 zk_i4 ?_
            refine zq_aload_n d_Model_winByTile_67 rfl rfl ?_
            refine zm_getI fg_Model_257 d_Model_winByTile_68 zs_Model rfl ?_
            refine zq_imul d_Model_winByTile_71 ?_
            refine zr_less (L' := [some (.ref 33), some (.int x1), some (.int x2), some (.int x3), none]) ⟨rfl, ⟨rfl, ⟨rfl, ⟨rfl, trivial⟩⟩⟩⟩ ?_
            exact s_Model_winByTile_L72  ih  hJ
          · have hJ := hJ.2 c
            refine zq_bipush (v := 6) d_Model_winByTile_56 zk_b6 ?_
            refine zq_aload_n d_Model_winByTile_58 rfl rfl ?_
            refine zm_getI fg_Model_257 d_Model_winByTile_59 zs_Model rfl ?_
            refine zq_imul d_Model_winByTile_62 ?_
            refine zq_goto (tgt := 72) d_Model_winByTile_63 (by decide) ?_
            refine zr_less (L' := [some (.ref 33), some (.int x1), some (.int x2), some (.int x3), none]) ⟨rfl, ⟨rfl, ⟨rfl, ⟨rfl, trivial⟩⟩⟩⟩ ?_
            exact s_Model_winByTile_L72  ih  hJ
set_option maxHeartbeats 400000 in
theorem s_Model_winByTile {g : zk_T} {K : zm → Prop} {m : zm} (hJ : j_Model_winByTile  m K) : zq_Mt (zk_g g) y_Model_winByTile 5 0 0 [.ref 33] (zm_hp m) (zm_QV K) := by
  unfold j_Model_winByTile at hJ
  refine zq_meth (ini := false) rfl (fun h => by cases h) (Nat.le_of_ble_eq_true rfl) ?_
  refine zr_L (F := ("RiichiTableModel", prog_9_method_67_code, 5, none, false, zq_rm 5 0 0)) (L' := [some (.ref 33), none, none, none, none]) rfl ?_
  refine zq_aload_n d_Model_winByTile_0 rfl rfl ?_
  refine zq_iconst (v := 4) d_Model_winByTile_1 zk_i4 ?_
  refine zr_cvI (q := 33) (as := [.int 4]) (st := []) d_Model_winByTile_2 cc_Model_331 cv_Model_answered zs_Model (s_Model_answered  hJ) rfl ⟨Nat.le_of_ble_eq_true rfl, Nat.le_of_ble_eq_true rfl⟩ (Nat.le_of_ble_eq_true rfl) ⟨Nat.le_refl _, Nat.le_refl _⟩ rfl (fun r2 m1 hJ => ?_)
  refine zr_istore_n (L' := [some (.ref 33), some (.int r2), none, none, none]) d_Model_winByTile_5 rfl (Nat.le_of_ble_eq_true rfl) rfl ?_
  refine zq_iconst (v := 0) d_Model_winByTile_6 zk_i0 ?_
  refine zr_istore_n (L' := [some (.ref 33), some (.int r2), some (.int 0), none, none]) d_Model_winByTile_7 rfl (Nat.le_of_ble_eq_true rfl) rfl ?_
  refine zq_iconst (v := 0) d_Model_winByTile_8 zk_i0 ?_
  refine zr_istore_n (L' := [some (.ref 33), some (.int r2), some (.int 0), some (.int 0), none]) d_Model_winByTile_9 rfl (Nat.le_of_ble_eq_true rfl) rfl ?_
  refine zr_less (L' := [some (.ref 33), some (.int r2), some (.int 0), some (.int 0), none]) ⟨rfl, ⟨rfl, ⟨rfl, ⟨rfl, trivial⟩⟩⟩⟩ ?_
  obtain ⟨n10, hJ⟩ := hJ
  exact s_Model_winByTile_L10   n10  hJ
set_option maxHeartbeats 400000 in
theorem s_Model_settle_L41 {g : zk_T} {R18 : Int32 → Int32 → Int32 → zm → Prop} {K : zm → Prop} (hR18 : ∀ {x1 : Int32} {x2 : Int32} {x3 : Int32} {m : zm}, R18 x1 x2 x3 m → zq_V (zk_g g) ("RiichiTableModel", prog_9_method_55_code, 5, none, false, zq_rm 6 0 0) 0 0 18 [some (.ref 33), some (.int x1), some (.int x2), some (.int x3), none] [] (zm_hp m) (zm_QV K)) {x1 : Int32} {x3 : Int32} {t0 : Int32} {m : zm} (hJ : j_Model_settle_L41  R18 K x1 x3 t0 m) : zq_V (zk_g g) ("RiichiTableModel", prog_9_method_55_code, 5, none, false, zq_rm 6 0 0) 0 0 41 [some (.ref 33), some (.int x1), none, some (.int x3), none] [.int t0] (zm_hp m) (zm_QV K) := by
  unfold j_Model_settle_L41 at hJ
  refine zr_istore_n (L' := [some (.ref 33), some (.int x1), some (.int t0), some (.int x3), none]) d_Model_settle_41 rfl (Nat.le_of_ble_eq_true rfl) rfl ?_
  refine zr_iinc (d' := 1) d_Model_settle_42 zk_i1 rfl (Nat.le_of_ble_eq_true rfl) (fun y3 hy3 => ?_)
  have hJ := hJ y3 hy3
  refine zr_L (L' := [some (.ref 33), some (.int x1), some (.int t0), some (.int y3), none]) rfl ?_
  refine zq_goto (tgt := 18) d_Model_settle_45 (by decide) ?_
  refine zr_less (L' := [some (.ref 33), some (.int x1), some (.int t0), some (.int y3), none]) ⟨rfl, ⟨rfl, ⟨rfl, ⟨rfl, trivial⟩⟩⟩⟩ ?_
  exact hR18  hJ
set_option maxHeartbeats 400000 in
theorem s_Model_settle_L36 {g : zk_T} {R18 : Int32 → Int32 → Int32 → zm → Prop} {K : zm → Prop} (hR18 : ∀ {x1 : Int32} {x2 : Int32} {x3 : Int32} {m : zm}, R18 x1 x2 x3 m → zq_V (zk_g g) ("RiichiTableModel", prog_9_method_55_code, 5, none, false, zq_rm 6 0 0) 0 0 18 [some (.ref 33), some (.int x1), some (.int x2), some (.int x3), none] [] (zm_hp m) (zm_QV K)) {x1 : Int32} {x3 : Int32} {m : zm} (hJ : j_Model_settle_L36  R18 K x1 x3 m) : zq_V (zk_g g) ("RiichiTableModel", prog_9_method_55_code, 5, none, false, zq_rm 6 0 0) 0 0 36 [some (.ref 33), some (.int x1), none, some (.int x3), none] [] (zm_hp m) (zm_QV K) := by
  unfold j_Model_settle_L36 at hJ
  refine zq_iconst (v := 1) d_Model_settle_36 zk_i1 ?_
  refine zq_goto (tgt := 41) d_Model_settle_37 (by decide) ?_
  refine zr_less (L' := [some (.ref 33), some (.int x1), none, some (.int x3), none]) ⟨rfl, ⟨rfl, ⟨rfl, trivial⟩⟩⟩ ?_
  exact s_Model_settle_L41  hR18  hJ
set_option maxHeartbeats 400000 in
theorem s_Model_settle_L135 {g : zk_T} {R50 : Int32 → Int32 → Int32 → zm → Prop} {K : zm → Prop} (hR50 : ∀ {x1 : Int32} {x2 : Int32} {x3 : Int32} {m : zm}, R50 x1 x2 x3 m → zq_V (zk_g g) ("RiichiTableModel", prog_9_method_55_code, 5, none, false, zq_rm 6 0 0) 0 0 50 [some (.ref 33), some (.int x1), some (.int x2), some (.int x3), none] [] (zm_hp m) (zm_QV K)) {x1 : Int32} {x2 : Int32} {x3 : Int32} {t0 : Int32} {t1 : Int32} {m : zm} (hJ : j_Model_settle_L135  R50 K x1 x2 x3 t0 t1 m) : zq_V (zk_g g) ("RiichiTableModel", prog_9_method_55_code, 5, none, false, zq_rm 6 0 0) 0 0 135 [some (.ref 33), some (.int x1), some (.int x2), some (.int x3), none] [.int t0, .int t1, .ref 44] (zm_hp m) (zm_QV K) := by
  unfold j_Model_settle_L135 at hJ
  obtain ⟨hb, hJ⟩ := hJ
  obtain ⟨hz, hJ⟩ := hJ
  refine zr_zst d_Model_settle_135 (rfl : zm_sh[44]? = some (.inl (2, 4, .inl (fun _ => 0)))) hb hz (fun m9 hm9 => ?_)
  have hJ := hJ m9 hm9
  refine zr_iinc (d' := 1) d_Model_settle_136 zk_i1 rfl (Nat.le_of_ble_eq_true rfl) (fun y10 hy10 => ?_)
  have hJ := hJ y10 hy10
  refine zr_L (L' := [some (.ref 33), some (.int x1), some (.int x2), some (.int y10), none]) rfl ?_
  refine zq_goto (tgt := 50) d_Model_settle_139 (by decide) ?_
  refine zr_less (L' := [some (.ref 33), some (.int x1), some (.int x2), some (.int y10), none]) ⟨rfl, ⟨rfl, ⟨rfl, ⟨rfl, trivial⟩⟩⟩⟩ ?_
  exact hR50  hJ
set_option maxHeartbeats 400000 in
theorem s_Model_settle_L130 {g : zk_T} {R50 : Int32 → Int32 → Int32 → zm → Prop} {K : zm → Prop} (hR50 : ∀ {x1 : Int32} {x2 : Int32} {x3 : Int32} {m : zm}, R50 x1 x2 x3 m → zq_V (zk_g g) ("RiichiTableModel", prog_9_method_55_code, 5, none, false, zq_rm 6 0 0) 0 0 50 [some (.ref 33), some (.int x1), some (.int x2), some (.int x3), none] [] (zm_hp m) (zm_QV K)) {x1 : Int32} {x2 : Int32} {x3 : Int32} {t0 : Int32} {m : zm} (hJ : j_Model_settle_L130  R50 K x1 x2 x3 t0 m) : zq_V (zk_g g) ("RiichiTableModel", prog_9_method_55_code, 5, none, false, zq_rm 6 0 0) 0 0 130 [some (.ref 33), some (.int x1), some (.int x2), some (.int x3), none] [.int t0, .ref 44] (zm_hp m) (zm_QV K) := by
  unfold j_Model_settle_L130 at hJ
  refine zq_iconst (v := 1) d_Model_settle_130 zk_i1 ?_
  refine zq_goto (tgt := 135) d_Model_settle_131 (by decide) ?_
  refine zr_less (L' := [some (.ref 33), some (.int x1), some (.int x2), some (.int x3), none]) ⟨rfl, ⟨rfl, ⟨rfl, ⟨rfl, trivial⟩⟩⟩⟩ ?_
  exact s_Model_settle_L135  hR50  hJ
set_option maxHeartbeats 400000 in
theorem s_Model_settle_L134 {g : zk_T} {R50 : Int32 → Int32 → Int32 → zm → Prop} {K : zm → Prop} (hR50 : ∀ {x1 : Int32} {x2 : Int32} {x3 : Int32} {m : zm}, R50 x1 x2 x3 m → zq_V (zk_g g) ("RiichiTableModel", prog_9_method_55_code, 5, none, false, zq_rm 6 0 0) 0 0 50 [some (.ref 33), some (.int x1), some (.int x2), some (.int x3), none] [] (zm_hp m) (zm_QV K)) {x1 : Int32} {x2 : Int32} {x3 : Int32} {t0 : Int32} {m : zm} (hJ : j_Model_settle_L134  R50 K x1 x2 x3 t0 m) : zq_V (zk_g g) ("RiichiTableModel", prog_9_method_55_code, 5, none, false, zq_rm 6 0 0) 0 0 134 [some (.ref 33), some (.int x1), some (.int x2), some (.int x3), none] [.int t0, .ref 44] (zm_hp m) (zm_QV K) := by
  unfold j_Model_settle_L134 at hJ
  refine zq_iconst (v := 0) d_Model_settle_134 zk_i0 ?_
  refine zr_less (L' := [some (.ref 33), some (.int x1), some (.int x2), some (.int x3), none]) ⟨rfl, ⟨rfl, ⟨rfl, ⟨rfl, trivial⟩⟩⟩⟩ ?_
  exact s_Model_settle_L135  hR50  hJ
set_option maxHeartbeats 400000 in
theorem s_Model_settle_L95 {g : zk_T} {R50 : Int32 → Int32 → Int32 → zm → Prop} {K : zm → Prop} (hR50 : ∀ {x1 : Int32} {x2 : Int32} {x3 : Int32} {m : zm}, R50 x1 x2 x3 m → zq_V (zk_g g) ("RiichiTableModel", prog_9_method_55_code, 5, none, false, zq_rm 6 0 0) 0 0 50 [some (.ref 33), some (.int x1), some (.int x2), some (.int x3), none] [] (zm_hp m) (zm_QV K)) {x1 : Int32} {x2 : Int32} {x3 : Int32} {t0 : Int32} {m : zm} (hJ : j_Model_settle_L95  R50 K x1 x2 x3 t0 m) : zq_V (zk_g g) ("RiichiTableModel", prog_9_method_55_code, 5, none, false, zq_rm 6 0 0) 0 0 95 [some (.ref 33), some (.int x1), some (.int x2), some (.int x3), none] [.int t0] (zm_hp m) (zm_QV K) := by
  unfold j_Model_settle_L95 at hJ
  refine zr_istore (L' := [some (.ref 33), some (.int x1), some (.int x2), some (.int x3), some (.int t0)]) d_Model_settle_95 (Nat.le_of_ble_eq_true rfl) rfl ?_
  refine zq_aload_n d_Model_settle_97 rfl rfl ?_
  refine zm_getR fg_Model_41 d_Model_settle_98 zs_Model rfl ?_
  refine zq_iload_n d_Model_settle_101 rfl rfl ?_
  refine zq_aload_n d_Model_settle_102 rfl rfl ?_
  refine zm_getR fg_Model_41 d_Model_settle_103 zs_Model rfl ?_
  refine zq_iload_n d_Model_settle_106 rfl rfl ?_
  obtain ⟨hb, hJ⟩ := hJ
  refine zm_zld d_Model_settle_107 (rfl : zm_sh[44]? = some (.inl (2, 4, .inl (fun _ => 0)))) hb ?_
  refine zq_if_ne (tgt := 130) d_Model_settle_108 (by decide) (fun c => ?_) (fun c => ?_)
  · have hJ := hJ.1 c
    refine zr_less (L' := [some (.ref 33), some (.int x1), some (.int x2), some (.int x3), none]) ⟨rfl, ⟨rfl, ⟨rfl, ⟨rfl, trivial⟩⟩⟩⟩ ?_
    exact s_Model_settle_L130  hR50  hJ
  · have hJ := hJ.2 c
    refine zq_iload d_Model_settle_111 rfl ?_
    refine zq_if_eq (tgt := 134) d_Model_settle_113 (by decide) (fun c => ?_) (fun c => ?_)
    · have hJ := hJ.1 c
      refine zr_less (L' := [some (.ref 33), some (.int x1), some (.int x2), some (.int x3), none]) ⟨rfl, ⟨rfl, ⟨rfl, ⟨rfl, trivial⟩⟩⟩⟩ ?_
      exact s_Model_settle_L134  hR50  hJ
    · have hJ := hJ.2 c
      refine zq_aload_n d_Model_settle_116 rfl rfl ?_
      refine zm_getI fg_Model_312 d_Model_settle_117 zs_Model rfl ?_
      refine zq_if_eq (tgt := 130) d_Model_settle_120 (by decide) (fun c => ?_) (fun c => ?_)
      · have hJ := hJ.1 c
        refine zr_less (L' := [some (.ref 33), some (.int x1), some (.int x2), some (.int x3), none]) ⟨rfl, ⟨rfl, ⟨rfl, ⟨rfl, trivial⟩⟩⟩⟩ ?_
        exact s_Model_settle_L130  hR50  hJ
      · have hJ := hJ.2 c
        refine zq_aload_n d_Model_settle_123 rfl rfl ?_
        refine zm_getI fg_Model_325 d_Model_settle_124 zs_Model rfl ?_
        refine zq_if_eq (tgt := 134) d_Model_settle_127 (by decide) (fun c => ?_) (fun c => ?_)
        · have hJ := hJ.1 c
          refine zr_less (L' := [some (.ref 33), some (.int x1), some (.int x2), some (.int x3), none]) ⟨rfl, ⟨rfl, ⟨rfl, ⟨rfl, trivial⟩⟩⟩⟩ ?_
          exact s_Model_settle_L134  hR50  hJ
        · have hJ := hJ.2 c
          refine zr_less (L' := [some (.ref 33), some (.int x1), some (.int x2), some (.int x3), none]) ⟨rfl, ⟨rfl, ⟨rfl, ⟨rfl, trivial⟩⟩⟩⟩ ?_
          exact s_Model_settle_L130  hR50  hJ
set_option maxHeartbeats 400000 in
theorem s_Model_settle_L94 {g : zk_T} {R50 : Int32 → Int32 → Int32 → zm → Prop} {K : zm → Prop} (hR50 : ∀ {x1 : Int32} {x2 : Int32} {x3 : Int32} {m : zm}, R50 x1 x2 x3 m → zq_V (zk_g g) ("RiichiTableModel", prog_9_method_55_code, 5, none, false, zq_rm 6 0 0) 0 0 50 [some (.ref 33), some (.int x1), some (.int x2), some (.int x3), none] [] (zm_hp m) (zm_QV K)) {x1 : Int32} {x2 : Int32} {x3 : Int32} {m : zm} (hJ : j_Model_settle_L94  R50 K x1 x2 x3 m) : zq_V (zk_g g) ("RiichiTableModel", prog_9_method_55_code, 5, none, false, zq_rm 6 0 0) 0 0 94 [some (.ref 33), some (.int x1), some (.int x2), some (.int x3), none] [] (zm_hp m) (zm_QV K) := by
  unfold j_Model_settle_L94 at hJ
  refine zq_iconst (v := 0) d_Model_settle_94 zk_i0 ?_
  refine zr_less (L' := [some (.ref 33), some (.int x1), some (.int x2), some (.int x3), none]) ⟨rfl, ⟨rfl, ⟨rfl, ⟨rfl, trivial⟩⟩⟩⟩ ?_
  exact s_Model_settle_L95  hR50  hJ
set_option maxHeartbeats 400000 in
theorem s_Model_settle_L73 {g : zk_T} {R50 : Int32 → Int32 → Int32 → zm → Prop} {K : zm → Prop} (hR50 : ∀ {x1 : Int32} {x2 : Int32} {x3 : Int32} {m : zm}, R50 x1 x2 x3 m → zq_V (zk_g g) ("RiichiTableModel", prog_9_method_55_code, 5, none, false, zq_rm 6 0 0) 0 0 50 [some (.ref 33), some (.int x1), some (.int x2), some (.int x3), none] [] (zm_hp m) (zm_QV K)) {x1 : Int32} {x2 : Int32} {x3 : Int32} {m : zm} (hJ : j_Model_settle_L73  R50 K x1 x2 x3 m) : zq_V (zk_g g) ("RiichiTableModel", prog_9_method_55_code, 5, none, false, zq_rm 6 0 0) 0 0 73 [some (.ref 33), some (.int x1), some (.int x2), some (.int x3), none] [] (zm_hp m) (zm_QV K) := by
  unfold j_Model_settle_L73 at hJ
  refine zq_aload_n d_Model_settle_73 rfl rfl ?_
  refine zq_iload_n d_Model_settle_74 rfl rfl ?_
  refine zr_cvL (q := 33) (as := [.int x3]) (st := []) d_Model_settle_75 cc_Model_177 cv_Model_waitsOf zs_Model (s_Model_waitsOf  hJ) rfl ⟨Nat.le_of_ble_eq_true rfl, Nat.le_of_ble_eq_true rfl⟩ (Nat.le_of_ble_eq_true rfl) ⟨Nat.le_refl _, Nat.le_refl _⟩ rfl (fun r12 m11 hJ => ?_)
  refine zq_aload_n d_Model_settle_78 rfl rfl ?_
  refine zm_getI fg_Model_309 d_Model_settle_79 zs_Model rfl ?_
  refine zq_lshr d_Model_settle_82 ?_
  refine zq_lconst (v := 1) d_Model_settle_83 zk_l1 ?_
  refine zq_land d_Model_settle_84 ?_
  refine zq_lconst (v := 1) d_Model_settle_85 zk_l1 ?_
  refine zq_lcmp d_Model_settle_86 ?_
  refine zq_if_ne (tgt := 94) d_Model_settle_87 (by decide) (fun c => ?_) (fun c => ?_)
  · have hJ := hJ.1 c
    refine zr_less (L' := [some (.ref 33), some (.int x1), some (.int x2), some (.int x3), none]) ⟨rfl, ⟨rfl, ⟨rfl, ⟨rfl, trivial⟩⟩⟩⟩ ?_
    exact s_Model_settle_L94  hR50  hJ
  · have hJ := hJ.2 c
    refine zq_iconst (v := 1) d_Model_settle_90 zk_i1 ?_
    refine zq_goto (tgt := 95) d_Model_settle_91 (by decide) ?_
    refine zr_less (L' := [some (.ref 33), some (.int x1), some (.int x2), some (.int x3), none]) ⟨rfl, ⟨rfl, ⟨rfl, ⟨rfl, trivial⟩⟩⟩⟩ ?_
    exact s_Model_settle_L95  hR50  hJ
set_option maxHeartbeats 400000 in
theorem s_Model_settle_L194 {g : zk_T} {K : zm → Prop} {m : zm} (hJ : j_Model_settle_L194   K  m) : zq_V (zk_g g) ("RiichiTableModel", prog_9_method_55_code, 5, none, false, zq_rm 6 0 0) 0 0 194 [some (.ref 33), none, none, none, none] [] (zm_hp m) (zm_QV K) := by
  unfold j_Model_settle_L194 at hJ
  exact zq_vret d_Model_settle_194 rfl (Nat.le_refl _) (Nat.le_refl _) ⟨_, rfl, rfl, hJ⟩
set_option maxHeartbeats 400000 in
theorem s_Model_settle_L50 {g : zk_T} {K : zm → Prop} : ∀ (n : Nat) {x1 : Int32} {x2 : Int32} {x3 : Int32} {m : zm}, j_Model_settle_L50   K n x1 x2 x3 m → zq_V (zk_g g) ("RiichiTableModel", prog_9_method_55_code, 5, none, false, zq_rm 6 0 0) 0 0 50 [some (.ref 33), some (.int x1), some (.int x2), some (.int x3), none] [] (zm_hp m) (zm_QV K) := by
  intro n
  induction n with
  | zero =>
    intro x1 x2 x3 m hJ
    exact False.elim hJ
  | succ n ih =>
    intro x1 x2 x3 m hJ
    rw [j_Model_settle_L50] at hJ
    refine zq_iload_n d_Model_settle_50 rfl rfl ?_
    refine zq_iconst (v := 4) d_Model_settle_51 zk_i4 ?_
    refine zq_icmp_ge (tgt := 142) d_Model_settle_52 (by decide) (fun c => ?_) (fun c => ?_)
    · have hJ := hJ.1 c
      refine zq_iload_n d_Model_settle_142 rfl rfl ?_
      refine zq_if_eq (tgt := 153) d_Model_settle_143 (by decide) (fun c => ?_) (fun c => ?_)
      · have hJ := hJ.1 c
        refine zq_aload_n d_Model_settle_153 rfl rfl ?_
        refine zm_getI fg_Model_312 d_Model_settle_154 zs_Model rfl ?_
        refine zq_if_eq (tgt := 167) d_Model_settle_157 (by decide) (fun c => ?_) (fun c => ?_)
        · have hJ := hJ.1 c
          refine zq_aload_n d_Model_settle_167 rfl rfl ?_
          refine zr_cvV (q := 33) (as := []) (st := []) d_Model_settle_168 cc_Model_340 cv_Model_payStick zs_Model (s_Model_payStick  hJ) rfl ⟨Nat.le_of_ble_eq_true rfl, Nat.le_of_ble_eq_true rfl⟩ (Nat.le_of_ble_eq_true rfl) ⟨Nat.le_refl _, Nat.le_refl _⟩ rfl (fun m4 hJ => ?_)
          refine zq_iload_n d_Model_settle_171 rfl rfl ?_
          refine zq_if_eq (tgt := 182) d_Model_settle_172 (by decide) (fun c => ?_) (fun c => ?_)
          · have hJ := hJ.1 c
            refine zq_aload_n d_Model_settle_182 rfl rfl ?_
            refine zq_aload_n d_Model_settle_183 rfl rfl ?_
            refine zm_getI fg_Model_113 d_Model_settle_184 zs_Model rfl ?_
            refine zq_iconst (v := 1) d_Model_settle_187 zk_i1 ?_
            refine zq_iadd d_Model_settle_188 ?_
            refine zq_iconst (v := 4) d_Model_settle_189 zk_i4 ?_
            refine zq_irem d_Model_settle_190 (by decide) ?_
            refine zr_cvV (q := 33) (as := [.int (((m4.1 33 4) + 1) - ((m4.1 33 4) + 1) / 4 * 4)]) (st := []) d_Model_settle_191 cc_Model_109 cv_Model_drawFor zs_Model (s_Model_drawFor  hJ) rfl ⟨Nat.le_of_ble_eq_true rfl, Nat.le_of_ble_eq_true rfl⟩ (Nat.le_of_ble_eq_true rfl) ⟨Nat.le_refl _, Nat.le_refl _⟩ rfl (fun m5 hJ => ?_)
            refine zr_less (L' := [some (.ref 33), none, none, none, none]) ⟨rfl, trivial⟩ ?_
            exact s_Model_settle_L194    hJ
          · have hJ := hJ.2 c
            refine zq_aload_n d_Model_settle_175 rfl rfl ?_
            refine zr_cvV (q := 33) (as := []) (st := []) d_Model_settle_176 cc_Model_343 cv_Model_call zs_Model (s_Model_call  hJ) rfl ⟨Nat.le_of_ble_eq_true rfl, Nat.le_of_ble_eq_true rfl⟩ (Nat.le_of_ble_eq_true rfl) ⟨Nat.le_refl _, Nat.le_refl _⟩ rfl (fun m6 hJ => ?_)
            refine zq_goto (tgt := 194) d_Model_settle_179 (by decide) ?_
            refine zr_less (L' := [some (.ref 33), none, none, none, none]) ⟨rfl, trivial⟩ ?_
            exact s_Model_settle_L194    hJ
        · have hJ := hJ.2 c
          refine zq_aload_n d_Model_settle_160 rfl rfl ?_
          refine zr_cvV (q := 33) (as := []) (st := []) d_Model_settle_161 cc_Model_337 cv_Model_completeAdded zs_Model (s_Model_completeAdded  hJ) rfl ⟨Nat.le_of_ble_eq_true rfl, Nat.le_of_ble_eq_true rfl⟩ (Nat.le_of_ble_eq_true rfl) ⟨Nat.le_refl _, Nat.le_refl _⟩ rfl (fun m7 hJ => ?_)
          refine zq_goto (tgt := 194) d_Model_settle_164 (by decide) ?_
          refine zr_less (L' := [some (.ref 33), none, none, none, none]) ⟨rfl, trivial⟩ ?_
          exact s_Model_settle_L194    hJ
      · have hJ := hJ.2 c
        refine zq_aload_n d_Model_settle_146 rfl rfl ?_
        refine zr_cvV (q := 33) (as := []) (st := []) d_Model_settle_147 cc_Model_334 cv_Model_winByTile zs_Model (s_Model_winByTile  hJ) rfl ⟨Nat.le_of_ble_eq_true rfl, Nat.le_of_ble_eq_true rfl⟩ (Nat.le_of_ble_eq_true rfl) ⟨Nat.le_refl _, Nat.le_refl _⟩ rfl (fun m8 hJ => ?_)
        refine zq_goto (tgt := 194) d_Model_settle_150 (by decide) ?_
        refine zr_less (L' := [some (.ref 33), none, none, none, none]) ⟨rfl, trivial⟩ ?_
        exact s_Model_settle_L194    hJ
    · have hJ := hJ.2 c
      refine zq_aload_n d_Model_settle_55 rfl rfl ?_
      refine zm_getR fg_Model_47 d_Model_settle_56 zs_Model rfl ?_
      refine zq_iload_n d_Model_settle_59 rfl rfl ?_
      obtain ⟨hb, hJ⟩ := hJ
      refine zm_ald d_Model_settle_60 (rfl : zm_sh[46]? = some (.inl (0, 4, .inl (fun _ => 0)))) hb ?_
      refine zq_iconst (v := 4) d_Model_settle_61 zk_i4 ?_
      refine zq_icmp_ne (tgt := 73) d_Model_settle_62 (by decide) (fun c => ?_) (fun c => ?_)
      · have hJ := hJ.1 c
        refine zr_less (L' := [some (.ref 33), some (.int x1), some (.int x2), some (.int x3), none]) ⟨rfl, ⟨rfl, ⟨rfl, ⟨rfl, trivial⟩⟩⟩⟩ ?_
        exact s_Model_settle_L73  ih  hJ
      · have hJ := hJ.2 c
        refine zq_iload_n d_Model_settle_65 rfl rfl ?_
        refine zq_aload_n d_Model_settle_66 rfl rfl ?_
        refine zm_getI fg_Model_113 d_Model_settle_67 zs_Model rfl ?_
        refine zq_icmp_ne (tgt := 94) d_Model_settle_70 (by decide) (fun c => ?_) (fun c => ?_)
        · have hJ := hJ.1 c
          refine zr_less (L' := [some (.ref 33), some (.int x1), some (.int x2), some (.int x3), none]) ⟨rfl, ⟨rfl, ⟨rfl, ⟨rfl, trivial⟩⟩⟩⟩ ?_
          exact s_Model_settle_L94  ih  hJ
        · have hJ := hJ.2 c
          refine zr_less (L' := [some (.ref 33), some (.int x1), some (.int x2), some (.int x3), none]) ⟨rfl, ⟨rfl, ⟨rfl, ⟨rfl, trivial⟩⟩⟩⟩ ?_
          exact s_Model_settle_L73  ih  hJ
set_option maxHeartbeats 400000 in
theorem s_Model_settle_L18 {g : zk_T} {K : zm → Prop} : ∀ (n : Nat) {x1 : Int32} {x2 : Int32} {x3 : Int32} {m : zm}, j_Model_settle_L18   K n x1 x2 x3 m → zq_V (zk_g g) ("RiichiTableModel", prog_9_method_55_code, 5, none, false, zq_rm 6 0 0) 0 0 18 [some (.ref 33), some (.int x1), some (.int x2), some (.int x3), none] [] (zm_hp m) (zm_QV K) := by
  intro n
  induction n with
  | zero =>
    intro x1 x2 x3 m hJ
    exact False.elim hJ
  | succ n ih =>
    intro x1 x2 x3 m hJ
    rw [j_Model_settle_L18] at hJ
    refine zq_iload_n d_Model_settle_18 rfl rfl ?_
    refine zq_iconst (v := 4) d_Model_settle_19 zk_i4 ?_
    refine zq_icmp_ge (tgt := 48) d_Model_settle_20 (by decide) (fun c => ?_) (fun c => ?_)
    · have hJ := hJ.1 c
      refine zq_iconst (v := 0) d_Model_settle_48 zk_i0 ?_
      refine zr_istore_n (L' := [some (.ref 33), some (.int x1), some (.int x2), some (.int 0), none]) d_Model_settle_49 rfl (Nat.le_of_ble_eq_true rfl) rfl ?_
      refine zr_less (L' := [some (.ref 33), some (.int x1), some (.int x2), some (.int 0), none]) ⟨rfl, ⟨rfl, ⟨rfl, ⟨rfl, trivial⟩⟩⟩⟩ ?_
      obtain ⟨n50, hJ⟩ := hJ
      exact s_Model_settle_L50   n50  hJ
    · have hJ := hJ.2 c
      refine zq_iload_n d_Model_settle_23 rfl rfl ?_
      refine zq_if_ne (tgt := 36) d_Model_settle_24 (by decide) (fun c => ?_) (fun c => ?_)
      · have hJ := hJ.1 c
        refine zr_less (L' := [some (.ref 33), some (.int x1), none, some (.int x3), none]) ⟨rfl, ⟨rfl, ⟨rfl, trivial⟩⟩⟩ ?_
        exact s_Model_settle_L36  ih  hJ
      · have hJ := hJ.2 c
        refine zq_aload_n d_Model_settle_27 rfl rfl ?_
        refine zm_getR fg_Model_47 d_Model_settle_28 zs_Model rfl ?_
        refine zq_iload_n d_Model_settle_31 rfl rfl ?_
        obtain ⟨hb, hJ⟩ := hJ
        refine zm_ald d_Model_settle_32 (rfl : zm_sh[46]? = some (.inl (0, 4, .inl (fun _ => 0)))) hb ?_
        refine zq_if_le (tgt := 40) d_Model_settle_33 (by decide) (fun c => ?_) (fun c => ?_)
        · have hJ := hJ.1 c
          refine zq_iconst (v := 0) d_Model_settle_40 zk_i0 ?_
          refine zr_less (L' := [some (.ref 33), some (.int x1), none, some (.int x3), none]) ⟨rfl, ⟨rfl, ⟨rfl, trivial⟩⟩⟩ ?_
          exact s_Model_settle_L41  ih  hJ
        · have hJ := hJ.2 c
          refine zr_less (L' := [some (.ref 33), some (.int x1), none, some (.int x3), none]) ⟨rfl, ⟨rfl, ⟨rfl, trivial⟩⟩⟩ ?_
          exact s_Model_settle_L36  ih  hJ
set_option maxHeartbeats 400000 in
theorem s_Model_settle_L13 {g : zk_T} {K : zm → Prop} {t0 : Int32} {m : zm} (hJ : j_Model_settle_L13   K t0 m) : zq_V (zk_g g) ("RiichiTableModel", prog_9_method_55_code, 5, none, false, zq_rm 6 0 0) 0 0 13 [some (.ref 33), none, none, none, none] [.int t0] (zm_hp m) (zm_QV K) := by
  unfold j_Model_settle_L13 at hJ
  refine zr_istore_n (L' := [some (.ref 33), some (.int t0), none, none, none]) d_Model_settle_13 rfl (Nat.le_of_ble_eq_true rfl) rfl ?_
  refine zq_iconst (v := 0) d_Model_settle_14 zk_i0 ?_
  refine zr_istore_n (L' := [some (.ref 33), some (.int t0), some (.int 0), none, none]) d_Model_settle_15 rfl (Nat.le_of_ble_eq_true rfl) rfl ?_
  refine zq_iconst (v := 0) d_Model_settle_16 zk_i0 ?_
  refine zr_istore_n (L' := [some (.ref 33), some (.int t0), some (.int 0), some (.int 0), none]) d_Model_settle_17 rfl (Nat.le_of_ble_eq_true rfl) rfl ?_
  refine zr_less (L' := [some (.ref 33), some (.int t0), some (.int 0), some (.int 0), none]) ⟨rfl, ⟨rfl, ⟨rfl, ⟨rfl, trivial⟩⟩⟩⟩ ?_
  obtain ⟨n18, hJ⟩ := hJ
  exact s_Model_settle_L18   n18  hJ
set_option maxHeartbeats 400000 in
theorem s_Model_settle {g : zk_T} {K : zm → Prop} {m : zm} (hJ : j_Model_settle  m K) : zq_Mt (zk_g g) y_Model_settle 6 0 0 [.ref 33] (zm_hp m) (zm_QV K) := by
  unfold j_Model_settle at hJ
  refine zq_meth (ini := false) rfl (fun h => by cases h) (Nat.le_of_ble_eq_true rfl) ?_
  refine zr_L (F := ("RiichiTableModel", prog_9_method_55_code, 5, none, false, zq_rm 6 0 0)) (L' := [some (.ref 33), none, none, none, none]) rfl ?_
  refine zq_aload_n d_Model_settle_0 rfl rfl ?_
  refine zq_iconst (v := 4) d_Model_settle_1 zk_i4 ?_
  refine zr_cvI (q := 33) (as := [.int 4]) (st := []) d_Model_settle_2 cc_Model_331 cv_Model_answered zs_Model (s_Model_answered  hJ) rfl ⟨Nat.le_of_ble_eq_true rfl, Nat.le_of_ble_eq_true rfl⟩ (Nat.le_of_ble_eq_true rfl) ⟨Nat.le_refl _, Nat.le_refl _⟩ rfl (fun r2 m1 hJ => ?_)
  refine zq_if_lt (tgt := 12) d_Model_settle_5 (by decide) (fun c => ?_) (fun c => ?_)
  · have hJ := hJ.1 c
    refine zq_iconst (v := 0) d_Model_settle_12 zk_i0 ?_
    refine zr_less (L' := [some (.ref 33), none, none, none, none]) ⟨rfl, trivial⟩ ?_
    exact s_Model_settle_L13    hJ
  · have hJ := hJ.2 c
    refine zq_iconst (v := 1) d_Model_settle_8 zk_i1 ?_
    refine zq_goto (tgt := 13) d_Model_settle_9 (by decide) ?_
    refine zr_less (L' := [some (.ref 33), none, none, none, none]) ⟨rfl, trivial⟩ ?_
    exact s_Model_settle_L13    hJ
