set_option maxRecDepth 4000 in
theorem w_M_decode_L100 {w : Ww} {l0 : Launch} {x : Cx} {F : Nat} {p1 : Int32} {p2 : Int32} {p3 : Int32} {p4 : Int32} {S6 : St} {rs : (Int32 × St)} {k7 : Int32 → Option (Int32 × St)} (hnL : x.2.2.2.2.2.2.2.2.2.2.2.2 = 7) (C : XC shM w "NeighbourWiresModel" b_M_decode l0 7 x) (hR : RI shM w b_M_decode bzT rs x)  (hk7 : ∀ (v8 : Int32), k7 v8 = some rs → WX shM w x S6 150 [(2, .int p2), (5, .int v8)] []) : ∀ (n : Nat) (v9 : Int32) (v10 : Int32), M_decode_L100 F p1 p2 p3 p4 S6 k7 n v9 v10 = some rs → WX shM w x S6 100 [(0, .ref (w.1 0)), (1, .int p1), (2, .int p2), (3, .int p3), (4, .int p4), (5, .int v9), (6, .int v10)] [] := by
  intro n
  induction n with
  | zero => intro v9 v10 hf; cases hf
  | succ n ih =>
    intro v9 v10 hf
    rw [M_decode_L100] at hf
    refine x_iload C d_M_decode_100 6 rfl ?_
    refine x_iload C d_M_decode_102 4 rfl ?_
    refine x_icmp_ge C d_M_decode_104 hf (fun hf => ?_) (fun hf => ?_)
    · refine x_iload C d_M_decode_107 5 rfl ?_
      refine x_aload_n C d_M_decode_109 0 rfl ?_
      refine x_getr C d_M_decode_110 f_M_isKept wd996 rfl rfl ?_
      refine x_iload C d_M_decode_113 6 rfl ?_
      refine x_zald C d_M_decode_115 rfl hf (fun hf => ?_)
      refine x_jn (fun J12 => ∀ (v11 : Int32), J12 v11 = some rs → WX shM w x S6 141 [(0, .ref (w.1 0)), (1, .int p1), (2, .int p2), (3, .int p3), (4, .int p4), (6, .int v10)] [.int v11, .int v9]) hf (fun v11 hf => ?_) (fun J12 hJ12 hf => ?_)
      · refine x_iadd C d_M_decode_141 ?_
        refine x_bi hf (fun v13 hf => ?_)
        refine x_istore C d_M_decode_142 [(5, .int v13), (0, .ref (w.1 0)), (1, .int p1), (2, .int p2), (3, .int p3), (4, .int p4), (6, .int v10)] (by rw [hnL]; decide) rfl ?_
        refine x_iinc C 1 d_M_decode_144 6 rfl (by rw [hnL]; decide) hf (fun v14 => [(6, .int v14), (5, .int v13), (0, .ref (w.1 0)), (1, .int p1), (2, .int p2), (3, .int p3), (4, .int p4)]) (fun _ => rfl) (fun v14 hf => ?_)
        refine x_goto C d_M_decode_147 ?_
        refine x_sub [2, 3, 4, 5, 6, 1, 0] rfl ?_
        exact ih v13 v14 hf
      refine x_jn (fun J15 => J15  = some rs → WX shM w x S6 140 [(0, .ref (w.1 0)), (1, .int p1), (2, .int p2), (3, .int p3), (4, .int p4), (6, .int v10)] [.int v9]) hf (fun hf => ?_) (fun J15 hJ15 hf => ?_)
      · refine x_iconst C d_M_decode_140 0 ?_
        exact hJ12 0 hf
      refine x_if_eq C d_M_decode_116 hf (fun hf => ?_) (fun hf => ?_)
      · refine x_sub [0, 1, 2, 3, 4, 6] rfl ?_
        exact hJ15  hf
      refine x_aload_n C d_M_decode_119 0 rfl ?_
      refine x_getr C d_M_decode_120 f_M_slows wd998 rfl rfl ?_
      refine x_sipush C d_M_decode_123 256 ?_
      refine x_iload_n C d_M_decode_126 3 rfl ?_
      refine x_imul C d_M_decode_127 ?_
      refine x_iload C d_M_decode_128 6 rfl ?_
      refine x_iadd C d_M_decode_130 ?_
      refine x_iald C d_M_decode_131 rfl hf (fun hf => ?_)
      refine x_iload_n C d_M_decode_132 1 rfl ?_
      refine x_icmp_gt C d_M_decode_133 hf (fun hf => ?_) (fun hf => ?_)
      · refine x_sub [0, 1, 2, 3, 4, 6] rfl ?_
        exact hJ15  hf
      refine x_iconst C d_M_decode_136 1 ?_
      refine x_goto C d_M_decode_137 ?_
      refine x_sub [0, 1, 2, 3, 4, 6] rfl ?_
      exact hJ12 1 hf
    refine x_sub [2, 5] rfl ?_
    exact hk7 v9 hf
set_option maxRecDepth 4000 in
theorem m_M_decode {w : Ww} {l0 : Launch} {F : Nat} {S : St} {p1 : Int32} {p2 : Int32} {p3 : Int32} {p4 : Int32} {r : Int32} {S9 : St}  (hf : M_decode F S p1 p2 p3 p4 = some (r, S9)) : MI shM w l0 y_M_decode b_M_decode 7 .int 7 [.ref (w.1 0), .int p1, .int p2, .int p3, .int p4] S r S9 bzT := by
  refine MI.of (by decide) (Nat.le_of_ble_eq_true rfl) rfl (fun _ _ => rfl) (fun x hnL C hR => ?_)
  rw [M_decode] at hf
  refine x_iload_n C d_M_decode_0 1 rfl ?_
  refine x_i2l C d_M_decode_1 ?_
  refine x_lconst C d_M_decode_2 0 ?_
  refine x_ldc2 C d_M_decode_3 wd1223 ?_
  refine x_csr C d_M_decode_6 wd1088 cm_M_in [.long (Int32.toInt64 p1), .long 0, .long 4] rfl rfl (by decide) (Nat.le_of_ble_eq_true rfl) hf (fun _ h => m_M_in h) (fun v1 hf hb_v1 => ?_)
  refine x_if_eq C d_M_decode_9 hf (fun hf => ?_) (fun hf => ?_)
  · refine x_iconst C d_M_decode_41 (-1) ?_
    exact hR _ _ _ _ d_M_decode_42.1 hf trivial
  refine x_iload_n C d_M_decode_12 2 rfl ?_
  refine x_i2l C d_M_decode_13 ?_
  refine x_lconst C d_M_decode_14 0 ?_
  refine x_ldc2 C d_M_decode_15 wd1322 ?_
  refine x_csr C d_M_decode_18 wd1088 cm_M_in [.long (Int32.toInt64 p2), .long 0, .long 8] rfl rfl (by decide) (Nat.le_of_ble_eq_true rfl) hf (fun _ h => m_M_in h) (fun v2 hf hb_v2 => ?_)
  refine x_if_eq C d_M_decode_21 hf (fun hf => ?_) (fun hf => ?_)
  · refine x_iconst C d_M_decode_41 (-1) ?_
    exact hR _ _ _ _ d_M_decode_42.1 hf trivial
  refine x_aload_n C d_M_decode_24 0 rfl ?_
  refine x_iload_n C d_M_decode_25 3 rfl ?_
  refine x_cvr C d_M_decode_26 wd1159 cm_M_isWord rfl rfl [.int p3] rfl rfl (by decide) (Nat.le_of_ble_eq_true rfl) hf (fun _ h => m_M_isWord h) (fun v3 hf hb_v3 => ?_)
  refine x_if_eq C d_M_decode_29 hf (fun hf => ?_) (fun hf => ?_)
  · refine x_iconst C d_M_decode_41 (-1) ?_
    exact hR _ _ _ _ d_M_decode_42.1 hf trivial
  refine x_aload_n C d_M_decode_32 0 rfl ?_
  refine x_iload C d_M_decode_33 4 rfl ?_
  refine x_cvr C d_M_decode_35 wd1159 cm_M_isWord rfl rfl [.int p4] rfl rfl (by decide) (Nat.le_of_ble_eq_true rfl) hf (fun _ h => m_M_isWord h) (fun v4 hf hb_v4 => ?_)
  refine x_if_ne C d_M_decode_38 hf (fun hf => ?_) (fun hf => ?_)
  · refine x_iconst C d_M_decode_41 (-1) ?_
    exact hR _ _ _ _ d_M_decode_42.1 hf trivial
  refine x_aload_n C d_M_decode_43 0 rfl ?_
  refine x_iload_n C d_M_decode_44 1 rfl ?_
  refine x_iload_n C d_M_decode_45 2 rfl ?_
  refine x_cvi C d_M_decode_46 wd1323 cm_M_findKept rfl rfl [.int p1, .int p2] rfl rfl (by decide) (Nat.le_of_ble_eq_true rfl) hf (fun _ _ h => m_M_findKept h) (fun v5 S6 hf hb_v5 => ?_)
  refine x_if_ne C d_M_decode_49 hf (fun hf => ?_) (fun hf => ?_)
  · refine x_bipush C d_M_decode_52 (-2) ?_
    exact hR _ _ _ _ d_M_decode_54.1 hf trivial
  refine x_aload_n C d_M_decode_55 0 rfl ?_
  refine x_getr C d_M_decode_56 f_M_isKept wd996 rfl rfl ?_
  refine x_iload_n C d_M_decode_59 3 rfl ?_
  refine x_zald C d_M_decode_60 rfl hf (fun hf => ?_)
  refine x_if_eq C d_M_decode_61 hf (fun hf => ?_) (fun hf => ?_)
  · refine x_bipush C d_M_decode_91 (-4) ?_
    exact hR _ _ _ _ d_M_decode_93.1 hf trivial
  refine x_aload_n C d_M_decode_64 0 rfl ?_
  refine x_getr C d_M_decode_65 f_M_isKept wd996 rfl rfl ?_
  refine x_iload C d_M_decode_68 4 rfl ?_
  refine x_zald C d_M_decode_70 rfl hf (fun hf => ?_)
  refine x_if_eq C d_M_decode_71 hf (fun hf => ?_) (fun hf => ?_)
  · refine x_bipush C d_M_decode_91 (-4) ?_
    exact hR _ _ _ _ d_M_decode_93.1 hf trivial
  refine x_aload_n C d_M_decode_74 0 rfl ?_
  refine x_getr C d_M_decode_75 f_M_slows wd998 rfl rfl ?_
  refine x_sipush C d_M_decode_78 256 ?_
  refine x_iload_n C d_M_decode_81 3 rfl ?_
  refine x_imul C d_M_decode_82 ?_
  refine x_iload C d_M_decode_83 4 rfl ?_
  refine x_iadd C d_M_decode_85 ?_
  refine x_iald C d_M_decode_86 rfl hf (fun hf => ?_)
  refine x_iload_n C d_M_decode_87 1 rfl ?_
  refine x_icmp_le C d_M_decode_88 hf (fun hf => ?_) (fun hf => ?_)
  · refine x_bipush C d_M_decode_91 (-4) ?_
    exact hR _ _ _ _ d_M_decode_93.1 hf trivial
  refine x_iconst C d_M_decode_94 0 ?_
  refine x_istore C d_M_decode_95 [(5, .int 0), (0, .ref (w.1 0)), (1, .int p1), (2, .int p2), (3, .int p3), (4, .int p4)] (by rw [hnL]; decide) rfl ?_
  refine x_iconst C d_M_decode_97 0 ?_
  refine x_istore C d_M_decode_98 [(6, .int 0), (5, .int 0), (0, .ref (w.1 0)), (1, .int p1), (2, .int p2), (3, .int p3), (4, .int p4)] (by rw [hnL]; decide) rfl ?_
  refine x_sub [2, 3, 4, 5, 6, 1, 0] rfl ?_
  refine w_M_decode_L100 hnL C hR (fun v8 hf => ?_) F 0 0 hf
  refine x_iload C d_M_decode_150 1 rfl ?_
  refine x_iconst C d_M_decode_152 1 ?_
  refine x_iload_n C d_M_decode_153 0 rfl ?_
  refine x_ishl C d_M_decode_154 ?_
  refine x_icmp_ge C d_M_decode_155 hf (fun hf => ?_) (fun hf => ?_)
  · refine x_iload C d_M_decode_158 1 rfl ?_
    refine x_goto C d_M_decode_160 ?_
    exact hR _ _ _ _ d_M_decode_165.1 hf trivial
  refine x_bipush C d_M_decode_163 (-4) ?_
  exact hR _ _ _ _ d_M_decode_165.1 hf trivial
set_option maxRecDepth 4000 in
theorem m_M_isSheet {w : Ww} {l0 : Launch} {F : Nat} {S : St} {p1 : Int32} {p2 : Int32} {rs : Int32}  (hf : M_isSheet F S p1 p2 = some rs) : MI shM w l0 y_M_isSheet b_M_isSheet 2 .boolean 1 [.int p1, .int p2] S rs S bz01 := by
  refine MI.of (by decide) (Nat.le_of_ble_eq_true rfl) rfl (fun v hb => by rcases hb with rfl | rfl <;> decide) (fun x hnL C hR => ?_)
  rw [M_isSheet] at hf
  refine x_iload_n C d_M_isSheet_0 0 rfl ?_
  refine x_i2l C d_M_isSheet_1 ?_
  refine x_lconst C d_M_isSheet_2 0 ?_
  refine x_ldc2 C d_M_isSheet_3 wd1163 ?_
  refine x_csr C d_M_isSheet_6 wd1088 cm_M_in [.long (Int32.toInt64 p1), .long 0, .long 3] rfl rfl (by decide) (Nat.le_of_ble_eq_true rfl) hf (fun _ h => m_M_in h) (fun v1 hf hb_v1 => ?_)
  refine x_jn (fun J2 => J2  = some rs → WX shM w x S 28 [] []) hf (fun hf => ?_) (fun J2 hJ2 hf => ?_)
  · refine x_iconst C d_M_isSheet_28 0 ?_
    exact x_retR hR d_M_isSheet_29 hf (Or.inl rfl)
  refine x_if_eq C d_M_isSheet_9 hf (fun hf => ?_) (fun hf => ?_)
  · refine x_sub [] rfl ?_
    exact hJ2  hf
  refine x_iload_n C d_M_isSheet_12 1 rfl ?_
  refine x_i2l C d_M_isSheet_13 ?_
  refine x_lconst C d_M_isSheet_14 0 ?_
  refine x_ldc2 C d_M_isSheet_15 wd1350 ?_
  refine x_csr C d_M_isSheet_18 wd1088 cm_M_in [.long (Int32.toInt64 p2), .long 0, .long 2] rfl rfl (by decide) (Nat.le_of_ble_eq_true rfl) hf (fun _ h => m_M_in h) (fun v3 hf hb_v3 => ?_)
  refine x_if_eq C d_M_isSheet_21 hf (fun hf => ?_) (fun hf => ?_)
  · refine x_sub [] rfl ?_
    exact hJ2  hf
  refine x_iconst C d_M_isSheet_24 1 ?_
  refine x_goto C d_M_isSheet_25 ?_
  exact x_retR hR d_M_isSheet_29 hf (Or.inr rfl)
set_option maxRecDepth 4000 in
theorem w_M_sheet_L40 {w : Ww} {l0 : Launch} {x : Cx} {F : Nat} {p1 : Int32} {rs : (Int32 × St)}  (hnL : x.2.2.2.2.2.2.2.2.2.2.2.2 = 5) (C : XC shM w "NeighbourWiresModel" b_M_sheet l0 2 x) (hR : RI shM w b_M_sheet bzT rs x)   : ∀ (n : Nat) (S4 : St) (v5 : Int32), M_sheet_L40 F p1 n S4 v5 = some rs → WX shM w x S4 40 [(0, .ref (w.1 0)), (1, .int p1), (4, .int v5)] [] := by
  intro n
  induction n with
  | zero => intro S4 v5 hf; cases hf
  | succ n ih =>
    intro S4 v5 hf
    rw [M_sheet_L40] at hf
    refine x_iload C d_M_sheet_40 2 rfl ?_
    refine x_bipush C d_M_sheet_42 40 ?_
    refine x_icmp_ge C d_M_sheet_44 hf (fun hf => ?_) (fun hf => ?_)
    · refine x_aload_n C d_M_sheet_47 0 rfl ?_
      refine x_getr C d_M_sheet_48 f_M_cells wd1001 rfl rfl ?_
      refine x_bipush C d_M_sheet_51 40 ?_
      refine x_iload_n C d_M_sheet_53 1 rfl ?_
      refine x_imul C d_M_sheet_54 ?_
      refine x_iload C d_M_sheet_55 2 rfl ?_
      refine x_iadd C d_M_sheet_57 ?_
      refine x_iconst C d_M_sheet_58 0 ?_
      refine x_iast C d_M_sheet_59 rfl hf (fun S6 hf => ?_)
      refine x_iinc C 1 d_M_sheet_60 2 rfl (by rw [hnL]; decide) hf (fun v7 => [(4, .int v7), (0, .ref (w.1 0)), (1, .int p1)]) (fun _ => rfl) (fun v7 hf => ?_)
      refine x_goto C d_M_sheet_63 ?_
      refine x_sub [1, 2, 0] rfl ?_
      exact ih S6 v7 hf
    refine x_iconst C d_M_sheet_66 1 ?_
    exact hR _ _ _ _ d_M_sheet_67.1 hf trivial
set_option maxRecDepth 4000 in
theorem m_M_sheet {w : Ww} {l0 : Launch} {F : Nat} {S : St} {p1 : Int32} {p2 : Int32} {p3 : Int32} {r : Int32} {S9 : St}  (hf : M_sheet F S p1 p2 p3 = some (r, S9)) : MI shM w l0 y_M_sheet b_M_sheet 5 .int 2 [.ref (w.1 0), .int p1, .int p2, .int p3] S r S9 bzT := by
  refine MI.of (by decide) (Nat.le_of_ble_eq_true rfl) rfl (fun _ _ => rfl) (fun x hnL C hR => ?_)
  rw [M_sheet] at hf
  refine x_iload_n C d_M_sheet_0 1 rfl ?_
  refine x_iload_n C d_M_sheet_1 2 rfl ?_
  refine x_csr C d_M_sheet_2 wd1347 cm_M_isSheet [.int p1, .int p2] rfl rfl (by decide) (Nat.le_of_ble_eq_true rfl) hf (fun _ h => m_M_isSheet h) (fun v1 hf hb_v1 => ?_)
  refine x_if_eq C d_M_sheet_5 hf (fun hf => ?_) (fun hf => ?_)
  · refine x_iconst C d_M_sheet_14 (-1) ?_
    exact hR _ _ _ _ d_M_sheet_15.1 hf trivial
  refine x_iload_n C d_M_sheet_8 3 rfl ?_
  refine x_bipush C d_M_sheet_9 40 ?_
  refine x_icmp_le C d_M_sheet_11 hf (fun hf => ?_) (fun hf => ?_)
  · refine x_iconst C d_M_sheet_14 (-1) ?_
    exact hR _ _ _ _ d_M_sheet_15.1 hf trivial
  refine x_iload_n C d_M_sheet_16 3 rfl ?_
  refine x_if_ge C d_M_sheet_17 hf (fun hf => ?_) (fun hf => ?_)
  · refine x_bipush C d_M_sheet_20 (-14) ?_
    exact hR _ _ _ _ d_M_sheet_22.1 hf trivial
  refine x_aload_n C d_M_sheet_23 0 rfl ?_
  refine x_getr C d_M_sheet_24 f_M_lanes wd999 rfl rfl ?_
  refine x_iload_n C d_M_sheet_27 1 rfl ?_
  refine x_iload_n C d_M_sheet_28 2 rfl ?_
  refine x_iast C d_M_sheet_29 rfl hf (fun S2 hf => ?_)
  refine x_aload_n C d_M_sheet_30 0 rfl ?_
  refine x_getr C d_M_sheet_31 f_M_sizes wd1000 rfl rfl ?_
  refine x_iload_n C d_M_sheet_34 1 rfl ?_
  refine x_iload_n C d_M_sheet_35 3 rfl ?_
  refine x_iast C d_M_sheet_36 rfl hf (fun S3 hf => ?_)
  refine x_iconst C d_M_sheet_37 0 ?_
  refine x_istore C d_M_sheet_38 [(4, .int 0), (0, .ref (w.1 0)), (1, .int p1), (2, .int p2), (3, .int p3)] (by rw [hnL]; decide) rfl ?_
  refine x_sub [1, 2, 0] rfl ?_
  exact w_M_sheet_L40 hnL C hR  F S3 0 hf
set_option maxRecDepth 4000 in
theorem m_M_lay {w : Ww} {l0 : Launch} {F : Nat} {S : St} {p1 : Int32} {p2 : Int32} {p3 : Int32} {r : Int32} {S9 : St}  (hf : M_lay F S p1 p2 p3 = some (r, S9)) : MI shM w l0 y_M_lay b_M_lay 4 .int 2 [.ref (w.1 0), .int p1, .int p2, .int p3] S r S9 bzT := by
  refine MI.of (by decide) (Nat.le_of_ble_eq_true rfl) rfl (fun _ _ => rfl) (fun x hnL C hR => ?_)
  rw [M_lay] at hf
  refine x_iload_n C d_M_lay_0 1 rfl ?_
  refine x_iconst C d_M_lay_1 0 ?_
  refine x_csr C d_M_lay_2 wd1347 cm_M_isSheet [.int p1, .int 0] rfl rfl (by decide) (Nat.le_of_ble_eq_true rfl) hf (fun _ h => m_M_isSheet h) (fun v1 hf hb_v1 => ?_)
  refine x_if_ne C d_M_lay_5 hf (fun hf => ?_) (fun hf => ?_)
  · refine x_iconst C d_M_lay_8 (-1) ?_
    exact hR _ _ _ _ d_M_lay_9.1 hf trivial
  refine x_aload_n C d_M_lay_10 0 rfl ?_
  refine x_getr C d_M_lay_11 f_M_lanes wd999 rfl rfl ?_
  refine x_iload_n C d_M_lay_14 1 rfl ?_
  refine x_iald C d_M_lay_15 rfl hf (fun hf => ?_)
  refine x_bipush C d_M_lay_16 (-4) ?_
  refine x_icmp_ne C d_M_lay_18 hf (fun hf => ?_) (fun hf => ?_)
  · refine x_bipush C d_M_lay_21 (-11) ?_
    exact hR _ _ _ _ d_M_lay_23.1 hf trivial
  refine x_iload_n C d_M_lay_24 2 rfl ?_
  refine x_i2l C d_M_lay_25 ?_
  refine x_lconst C d_M_lay_26 0 ?_
  refine x_aload_n C d_M_lay_27 0 rfl ?_
  refine x_getr C d_M_lay_28 f_M_sizes wd1000 rfl rfl ?_
  refine x_iload_n C d_M_lay_31 1 rfl ?_
  refine x_iald C d_M_lay_32 rfl hf (fun hf => ?_)
  refine x_iconst C d_M_lay_33 1 ?_
  refine x_isub C d_M_lay_34 ?_
  refine x_i2l C d_M_lay_35 ?_
  refine x_csr C d_M_lay_36 wd1088 cm_M_in [.long (Int32.toInt64 p2), .long 0, .long (Int32.toInt64 ((S.1 15 (Int32.toNatClampNeg p1)) - 1))] rfl rfl (by decide) (Nat.le_of_ble_eq_true rfl) hf (fun _ h => m_M_in h) (fun v2 hf hb_v2 => ?_)
  refine x_if_ne C d_M_lay_39 hf (fun hf => ?_) (fun hf => ?_)
  · refine x_bipush C d_M_lay_42 (-12) ?_
    exact hR _ _ _ _ d_M_lay_44.1 hf trivial
  refine x_aload_n C d_M_lay_45 0 rfl ?_
  refine x_getr C d_M_lay_46 f_M_cells wd1001 rfl rfl ?_
  refine x_bipush C d_M_lay_49 40 ?_
  refine x_iload_n C d_M_lay_51 1 rfl ?_
  refine x_imul C d_M_lay_52 ?_
  refine x_iload_n C d_M_lay_53 2 rfl ?_
  refine x_iadd C d_M_lay_54 ?_
  refine x_aload_n C d_M_lay_55 0 rfl ?_
  refine x_getr C d_M_lay_56 f_M_lanes wd999 rfl rfl ?_
  refine x_iload_n C d_M_lay_59 1 rfl ?_
  refine x_iald C d_M_lay_60 rfl hf (fun hf => ?_)
  refine x_jn (fun J4 => ∀ (v3 : Int32), J4 v3 = some (r, S9) → WX shM w x S 85 [] [.int v3, .int ((40 * p1) + p2), .ref (w.1 16)]) hf (fun v3 hf => ?_) (fun J4 hJ4 hf => ?_)
  · refine x_iast C d_M_lay_85 rfl hf (fun S5 hf => ?_)
    refine x_iconst C d_M_lay_86 1 ?_
    exact hR _ _ _ _ d_M_lay_87.1 hf trivial
  refine x_if_ne C d_M_lay_61 hf (fun hf => ?_) (fun hf => ?_)
  · refine x_iload_n C d_M_lay_64 3 rfl ?_
    refine x_i2b C d_M_lay_65 ?_
    refine x_goto C d_M_lay_66 ?_
    refine x_sub [] rfl ?_
    exact hJ4 (jb p3) hf
  refine x_aload_n C d_M_lay_69 0 rfl ?_
  refine x_getr C d_M_lay_70 f_M_lanes wd999 rfl rfl ?_
  refine x_iload_n C d_M_lay_73 1 rfl ?_
  refine x_iald C d_M_lay_74 rfl hf (fun hf => ?_)
  refine x_iconst C d_M_lay_75 1 ?_
  refine x_icmp_ne C d_M_lay_76 hf (fun hf => ?_) (fun hf => ?_)
  · refine x_iload_n C d_M_lay_79 3 rfl ?_
    refine x_i2s C d_M_lay_80 ?_
    refine x_goto C d_M_lay_81 ?_
    refine x_sub [] rfl ?_
    exact hJ4 (js p3) hf
  refine x_iload_n C d_M_lay_84 3 rfl ?_
  refine x_sub [] rfl ?_
  exact hJ4 p3 hf
set_option maxRecDepth 4000 in
theorem w_M_read_L166 {w : Ww} {l0 : Launch} {x : Cx} {F : Nat} {p1 : Int32} {p3 : Int32} {v4 : Int32} {v5 : Int32} {rs : (Int32 × St)} {k6 : St → Option (Int32 × St)} (hnL : x.2.2.2.2.2.2.2.2.2.2.2.2 = 10) (C : XC shM w "NeighbourWiresModel" b_M_read l0 2 x) (hR : RI shM w b_M_read bzT rs x)  (hk6 : ∀ (S7 : St), k6 S7 = some rs → WX shM w x S7 212 [(0, .ref (w.1 0)), (5, .int v4), (6, .int v5)] []) : ∀ (n : Nat) (S9 : St) (v10 : Int32), M_read_L166 F p1 p3 v4 v5 k6 n S9 v10 = some rs → WX shM w x S9 166 [(0, .ref (w.1 0)), (1, .int p1), (3, .int p3), (5, .int v4), (6, .int v5), (7, .int v10)] [] := by
  intro n
  induction n with
  | zero => intro S9 v10 hf; cases hf
  | succ n ih =>
    intro S9 v10 hf
    rw [M_read_L166] at hf
    refine x_iload C d_M_read_166 5 rfl ?_
    refine x_iload C d_M_read_168 4 rfl ?_
    refine x_icmp_ge C d_M_read_170 hf (fun hf => ?_) (fun hf => ?_)
    · refine x_aload_n C d_M_read_173 0 rfl ?_
      refine x_getr C d_M_read_174 f_M_words wd971 rfl rfl ?_
      refine x_aload_n C d_M_read_177 0 rfl ?_
      refine x_get C d_M_read_178 f_M_rowLong wd970 rfl rfl ?_
      refine x_aload_n C d_M_read_181 0 rfl ?_
      refine x_getr C d_M_read_182 f_M_cells wd1001 rfl rfl ?_
      refine x_bipush C d_M_read_185 40 ?_
      refine x_iload_n C d_M_read_187 1 rfl ?_
      refine x_imul C d_M_read_188 ?_
      refine x_iload_n C d_M_read_189 2 rfl ?_
      refine x_iadd C d_M_read_190 ?_
      refine x_iload C d_M_read_191 5 rfl ?_
      refine x_iadd C d_M_read_193 ?_
      refine x_iald C d_M_read_194 rfl hf (fun hf => ?_)
      refine x_iast C d_M_read_195 rfl hf (fun S11 hf => ?_)
      refine x_aload_n C d_M_read_196 0 rfl ?_
      refine x_dup C d_M_read_197 rfl ?_
      refine x_get C d_M_read_198 f_M_rowLong wd970 rfl rfl ?_
      refine x_iconst C d_M_read_201 1 ?_
      refine x_iadd C d_M_read_202 ?_
      refine x_put C d_M_read_203 f_M_rowLong wd970 rfl rfl hf (fun S12 hf => ?_)
      refine x_iinc C 1 d_M_read_206 5 rfl (by rw [hnL]; decide) hf (fun v13 => [(7, .int v13), (0, .ref (w.1 0)), (1, .int p1), (3, .int p3), (5, .int v4), (6, .int v5)]) (fun _ => rfl) (fun v13 hf => ?_)
      refine x_goto C d_M_read_209 ?_
      refine x_sub [1, 2, 3, 4, 5, 0] rfl ?_
      exact ih S12 v13 hf
    refine x_sub [0, 3, 4] rfl ?_
    exact hk6 S9 hf
set_option maxRecDepth 4000 in
theorem w_M_read_L32 {w : Ww} {l0 : Launch} {x : Cx} {F : Nat} {p1 : Int32} {p2 : Int32} {p3 : Int32} {p4 : Int32} {S : St} {rs : (Int32 × St)} {k3 : Int32 → Int32 → Option (Int32 × St)} {k14 : Int32 → Option (Int32 × St)} (hnL : x.2.2.2.2.2.2.2.2.2.2.2.2 = 10) (C : XC shM w "NeighbourWiresModel" b_M_read l0 2 x) (hR : RI shM w b_M_read bzT rs x)  (hk3 : ∀ (v4 : Int32) (v5 : Int32), k3 v4 v5 = some rs → WX shM w x S 163 [(0, .ref (w.1 0)), (1, .int p1), (3, .int p3), (5, .int v4), (6, .int v5)] []) (hk14 : ∀ (v15 : Int32), k14 v15 = some rs → WX shM w x S 133 [(7, .int v15)] []) : ∀ (n : Nat) (v16 : Int32) (v17 : Int32) (v18 : Int32), M_read_L32 F p1 p2 p3 p4 S k3 k14 n v16 v17 v18 = some rs → WX shM w x S 32 [(0, .ref (w.1 0)), (1, .int p1), (2, .int p2), (3, .int p3), (4, .int p4), (5, .int v16), (6, .int v17), (7, .int v18)] [] := by
  intro n
  induction n with
  | zero => intro v16 v17 v18 hf; cases hf
  | succ n ih =>
    intro v16 v17 v18 hf
    rw [M_read_L32] at hf
    refine x_iload C d_M_read_32 7 rfl ?_
    refine x_iload C d_M_read_34 4 rfl ?_
    refine x_icmp_ge C d_M_read_36 hf (fun hf => ?_) (fun hf => ?_)
    · refine x_iload C d_M_read_39 5 rfl ?_
      refine x_if_ne C d_M_read_41 hf (fun hf => ?_) (fun hf => ?_)
      · refine x_iload_n C d_M_read_44 3 rfl ?_
        refine x_i2l C d_M_read_45 ?_
        refine x_iload C d_M_read_46 7 rfl ?_
        refine x_i2l C d_M_read_48 ?_
        refine x_ladd C d_M_read_49 ?_
        refine x_bl hf (fun u19 hf => ?_)
        refine x_lstore C d_M_read_50 [(8, .long u19), (0, .ref (w.1 0)), (1, .int p1), (2, .int p2), (3, .int p3), (4, .int p4), (5, .int v16), (6, .int v17), (7, .int v18)] (by rw [hnL]; decide) rfl ?_
        refine x_aload_n C d_M_read_52 1 rfl ?_
        refine x_getr C d_M_read_53 f_M_lanes wd999 rfl rfl ?_
        refine x_iload_n C d_M_read_56 2 rfl ?_
        refine x_iald C d_M_read_57 rfl hf (fun hf => ?_)
        refine x_bipush C d_M_read_58 (-4) ?_
        refine x_jn (fun J21 => ∀ (v20 : Int32), J21 v20 = some rs → WX shM w x S 106 [(0, .ref (w.1 0)), (1, .int p1), (2, .int p2), (3, .int p3), (4, .int p4), (6, .int v17), (7, .int v18), (8, .long u19)] [.int v20]) hf (fun v20 hf => ?_) (fun J21 hJ21 hf => ?_)
        · refine x_istore C d_M_read_106 [(5, .int v20), (0, .ref (w.1 0)), (1, .int p1), (2, .int p2), (3, .int p3), (4, .int p4), (6, .int v17), (7, .int v18), (8, .long u19)] (by rw [hnL]; decide) rfl ?_
          refine x_iload C d_M_read_108 0 rfl ?_
          refine x_jn (fun J23 => ∀ (v22 : Int32), J23 v22 = some rs → WX shM w x S 157 [(0, .ref (w.1 0)), (1, .int p1), (2, .int p2), (3, .int p3), (4, .int p4), (5, .int v20), (6, .int v22), (7, .int v18)] []) hf (fun v22 hf => ?_) (fun J23 hJ23 hf => ?_)
          · refine x_iinc C 1 d_M_read_157 7 rfl (by rw [hnL]; decide) hf (fun v24 => [(7, .int v24), (0, .ref (w.1 0)), (1, .int p1), (2, .int p2), (3, .int p3), (4, .int p4), (5, .int v20), (6, .int v22)]) (fun _ => rfl) (fun v24 hf => ?_)
            refine x_goto C d_M_read_160 ?_
            refine x_sub [1, 2, 3, 4, 5, 6, 7, 0] rfl ?_
            exact ih v20 v22 v24 hf
          refine x_if_ne C d_M_read_110 hf (fun hf => ?_) (fun hf => ?_)
          · refine x_aload_n C d_M_read_113 1 rfl ?_
            refine x_aload_n C d_M_read_114 1 rfl ?_
            refine x_getr C d_M_read_115 f_M_cells wd1001 rfl rfl ?_
            refine x_bipush C d_M_read_118 40 ?_
            refine x_iload_n C d_M_read_120 2 rfl ?_
            refine x_imul C d_M_read_121 ?_
            refine x_lload C d_M_read_122 8 rfl ?_
            refine x_l2i C d_M_read_124 ?_
            refine x_iadd C d_M_read_125 ?_
            refine x_iald C d_M_read_126 rfl hf (fun hf => ?_)
            refine x_cvr C d_M_read_127 wd1159 cm_M_isWord rfl rfl [.int (S.1 16 (Int32.toNatClampNeg ((40 * p1) + (Int64.toInt32 u19))))] rfl rfl (by decide) (Nat.le_of_ble_eq_true rfl) hf (fun _ h => m_M_isWord h) (fun v25 hf hb_v25 => ?_)
            refine x_if_ne C d_M_read_130 hf (fun hf => ?_) (fun hf => ?_)
            · refine x_sub [7] rfl ?_
              exact hk14 v18 hf
            refine x_aload_n C d_M_read_139 1 rfl ?_
            refine x_get C d_M_read_140 f_M_rowLong wd970 rfl rfl ?_
            refine x_iload C d_M_read_143 7 rfl ?_
            refine x_iadd C d_M_read_145 ?_
            refine x_bipush C d_M_read_146 40 ?_
            refine x_icmp_lt C d_M_read_148 hf (fun hf => ?_) (fun hf => ?_)
            · refine x_iinc C 1 d_M_read_154 6 rfl (by rw [hnL]; decide) hf (fun v26 => [(6, .int v26), (5, .int v20), (0, .ref (w.1 0)), (1, .int p1), (2, .int p2), (3, .int p3), (4, .int p4), (7, .int v18), (8, .long u19)]) (fun _ => rfl) (fun v26 hf => ?_)
              refine x_sub [2, 3, 4, 5, 6, 1, 0, 7] rfl ?_
              exact hJ23 v26 hf
            refine x_bipush C d_M_read_151 (-3) ?_
            exact hR _ _ _ _ d_M_read_153.1 hf trivial
          refine x_sub [1, 2, 3, 4, 5, 0, 6, 7] rfl ?_
          exact hJ23 v17 hf
        refine x_icmp_ne C d_M_read_60 hf (fun hf => ?_) (fun hf => ?_)
        · refine x_iconst C d_M_read_63 1 ?_
          refine x_goto C d_M_read_64 ?_
          refine x_sub [1, 2, 3, 4, 5, 7, 8, 0] rfl ?_
          exact hJ21 1 hf
        refine x_aload_n C d_M_read_67 1 rfl ?_
        refine x_getr C d_M_read_68 f_M_lanes wd999 rfl rfl ?_
        refine x_iload_n C d_M_read_71 2 rfl ?_
        refine x_iald C d_M_read_72 rfl hf (fun hf => ?_)
        refine x_iload_n C d_M_read_73 3 rfl ?_
        refine x_icmp_eq C d_M_read_74 hf (fun hf => ?_) (fun hf => ?_)
        · refine x_lload C d_M_read_81 0 rfl ?_
          refine x_lconst C d_M_read_83 0 ?_
          refine x_lcmp C d_M_read_84 ?_
          refine x_jn (fun J27 => J27  = some rs → WX shM w x S 101 [(0, .ref (w.1 0)), (1, .int p1), (2, .int p2), (3, .int p3), (4, .int p4), (6, .int v17), (7, .int v18), (8, .long u19)] []) hf (fun hf => ?_) (fun J27 hJ27 hf => ?_)
          · refine x_iconst C d_M_read_101 2 ?_
            refine x_goto C d_M_read_102 ?_
            exact hJ21 2 hf
          refine x_if_lt C d_M_read_85 hf (fun hf => ?_) (fun hf => ?_)
          · refine x_sub [1, 2, 3, 4, 5, 7, 8, 0] rfl ?_
            exact hJ27  hf
          refine x_lload C d_M_read_88 0 rfl ?_
          refine x_aload_n C d_M_read_90 1 rfl ?_
          refine x_getr C d_M_read_91 f_M_sizes wd1000 rfl rfl ?_
          refine x_iload_n C d_M_read_94 2 rfl ?_
          refine x_iald C d_M_read_95 rfl hf (fun hf => ?_)
          refine x_i2l C d_M_read_96 ?_
          refine x_lcmp C d_M_read_97 ?_
          refine x_if_lt C d_M_read_98 hf (fun hf => ?_) (fun hf => ?_)
          · refine x_iconst C d_M_read_105 0 ?_
            refine x_sub [1, 2, 3, 4, 5, 7, 8, 0] rfl ?_
            exact hJ21 0 hf
          refine x_sub [1, 2, 3, 4, 5, 7, 8, 0] rfl ?_
          exact hJ27  hf
        refine x_iconst C d_M_read_77 3 ?_
        refine x_goto C d_M_read_78 ?_
        refine x_sub [1, 2, 3, 4, 5, 7, 8, 0] rfl ?_
        exact hJ21 3 hf
      refine x_sub [0, 1, 3, 5, 6] rfl ?_
      exact hk3 v16 v17 hf
    refine x_sub [0, 1, 3, 5, 6] rfl ?_
    exact hk3 v16 v17 hf
set_option maxRecDepth 4000 in
theorem m_M_read {w : Ww} {l0 : Launch} {F : Nat} {S : St} {p1 : Int32} {p2 : Int32} {p3 : Int32} {p4 : Int32} {r : Int32} {S9 : St}  (hf : M_read F S p1 p2 p3 p4 = some (r, S9)) : MI shM w l0 y_M_read b_M_read 10 .int 2 [.ref (w.1 0), .int p1, .int p2, .int p3, .int p4] S r S9 bzT := by
  refine MI.of (by decide) (Nat.le_of_ble_eq_true rfl) rfl (fun _ _ => rfl) (fun x hnL C hR => ?_)
  rw [M_read] at hf
  refine x_iload_n C d_M_read_0 1 rfl ?_
  refine x_iload_n C d_M_read_1 2 rfl ?_
  refine x_csr C d_M_read_2 wd1347 cm_M_isSheet [.int p1, .int p2] rfl rfl (by decide) (Nat.le_of_ble_eq_true rfl) hf (fun _ h => m_M_isSheet h) (fun v1 hf hb_v1 => ?_)
  refine x_if_eq C d_M_read_5 hf (fun hf => ?_) (fun hf => ?_)
  · refine x_iconst C d_M_read_21 (-1) ?_
    exact hR _ _ _ _ d_M_read_22.1 hf trivial
  refine x_iload C d_M_read_8 4 rfl ?_
  refine x_i2l C d_M_read_10 ?_
  refine x_lconst C d_M_read_11 0 ?_
  refine x_ldc2 C d_M_read_12 wd1359 ?_
  refine x_csr C d_M_read_15 wd1088 cm_M_in [.long (Int32.toInt64 p4), .long 0, .long 40] rfl rfl (by decide) (Nat.le_of_ble_eq_true rfl) hf (fun _ h => m_M_in h) (fun v2 hf hb_v2 => ?_)
  refine x_if_ne C d_M_read_18 hf (fun hf => ?_) (fun hf => ?_)
  · refine x_iconst C d_M_read_21 (-1) ?_
    exact hR _ _ _ _ d_M_read_22.1 hf trivial
  refine x_iconst C d_M_read_23 0 ?_
  refine x_istore C d_M_read_24 [(5, .int 0), (0, .ref (w.1 0)), (1, .int p1), (2, .int p2), (3, .int p3), (4, .int p4)] (by rw [hnL]; decide) rfl ?_
  refine x_iconst C d_M_read_26 0 ?_
  refine x_istore C d_M_read_27 [(6, .int 0), (5, .int 0), (0, .ref (w.1 0)), (1, .int p1), (2, .int p2), (3, .int p3), (4, .int p4)] (by rw [hnL]; decide) rfl ?_
  refine x_iconst C d_M_read_29 0 ?_
  refine x_istore C d_M_read_30 [(7, .int 0), (6, .int 0), (5, .int 0), (0, .ref (w.1 0)), (1, .int p1), (2, .int p2), (3, .int p3), (4, .int p4)] (by rw [hnL]; decide) rfl ?_
  refine x_sub [3, 4, 5, 6, 7, 2, 1, 0] rfl ?_
  refine w_M_read_L32 hnL C hR (fun v4 v5 hf => ?_) (fun v15 hf => ?_) F 0 0 0 hf
  · refine x_iconst C d_M_read_163 0 ?_
    refine x_istore C d_M_read_164 [(7, .int 0), (0, .ref (w.1 0)), (1, .int p1), (3, .int p3), (5, .int v4), (6, .int v5)] (by rw [hnL]; decide) rfl ?_
    refine x_sub [1, 2, 3, 4, 5, 0] rfl ?_
    refine w_M_read_L166 hnL C hR (fun S7 hf => ?_) F S 0 hf
    refine x_aload_n C d_M_read_212 0 rfl ?_
    refine x_iload C d_M_read_213 1 rfl ?_
    refine x_put C d_M_read_215 f_M_torn wd1002 rfl rfl hf (fun S8 hf => ?_)
    refine x_iload C d_M_read_218 2 rfl ?_
    exact hR _ _ _ _ d_M_read_220.1 hf trivial
  refine x_bipush C d_M_read_133 (-20) ?_
  refine x_iload C d_M_read_135 0 rfl ?_
  refine x_isub C d_M_read_137 ?_
  exact hR _ _ _ _ d_M_read_138.1 hf trivial
set_option maxRecDepth 4000 in
theorem m_M_torn {w : Ww} {l0 : Launch} {F : Nat} {S : St} {rs : Int32}  (hf : M_torn F S = some rs) : MI shM w l0 y_M_torn b_M_torn 1 .int 0 [.ref (w.1 0)] S rs S bzT := by
  refine MI.of (by decide) (Nat.le_of_ble_eq_true rfl) rfl (fun _ _ => rfl) (fun x hnL C hR => ?_)
  rw [M_torn] at hf
  refine x_aload_n C d_M_torn_0 0 rfl ?_
  refine x_get C d_M_torn_1 f_M_torn wd1002 rfl rfl ?_
  exact x_retR hR d_M_torn_4 hf trivial
set_option maxRecDepth 4000 in
theorem m_M_count {w : Ww} {l0 : Launch} {F : Nat} {S : St} {p1 : Int32} {rs : Int32}  (hf : M_count F S p1 = some rs) : MI shM w l0 y_M_count b_M_count 2 .int 1 [.ref (w.1 0), .int p1] S rs S bzT := by
  refine MI.of (by decide) (Nat.le_of_ble_eq_true rfl) rfl (fun _ _ => rfl) (fun x hnL C hR => ?_)
  rw [M_count] at hf
  refine x_iload_n C d_M_count_0 1 rfl ?_
  rcases x_ite hf with ⟨q1, hf⟩ | ⟨q1, hf⟩
  · refine x_tin C d_M_count_1 (k := 0) (t := 44) q1 (by decide) (by decide) rfl (by decide) ?_
    refine x_aload_n C d_M_count_44 0 rfl ?_
    refine x_get C d_M_count_45 f_M_wires wd966 rfl rfl ?_
    exact x_retR hR d_M_count_48 hf trivial
  rcases x_ite hf with ⟨q2, hf⟩ | ⟨q2, hf⟩
  · refine x_tin C d_M_count_1 (k := 1) (t := 49) q2 (by decide) (by decide) rfl (by decide) ?_
    refine x_aload_n C d_M_count_49 0 rfl ?_
    refine x_get C d_M_count_50 f_M_own wd967 rfl rfl ?_
    exact x_retR hR d_M_count_53 hf trivial
  rcases x_ite hf with ⟨q3, hf⟩ | ⟨q3, hf⟩
  · refine x_tin C d_M_count_1 (k := 2) (t := 54) q3 (by decide) (by decide) rfl (by decide) ?_
    refine x_aload_n C d_M_count_54 0 rfl ?_
    refine x_get C d_M_count_55 f_M_side wd968 rfl rfl ?_
    exact x_retR hR d_M_count_58 hf trivial
  rcases x_ite hf with ⟨q5, hf⟩ | ⟨q5, hf⟩
  · refine x_tin C d_M_count_1 (k := 3) (t := 59) q5 (by decide) (by decide) rfl (by decide) ?_
    refine x_aload_n C d_M_count_59 0 rfl ?_
    refine x_get C d_M_count_60 f_M_shields wd969 rfl rfl ?_
    refine x_csr C d_M_count_63 wd1247 cm_M_countOf [.int (S.1 0 3)] rfl rfl (by decide) (Nat.le_of_ble_eq_true rfl) hf (fun _ h => m_M_countOf h) (fun v4 hf hb_v4 => ?_)
    exact x_retR hR d_M_count_66 hf trivial
  rcases x_ite hf with ⟨q6, hf⟩ | ⟨q6, hf⟩
  · refine x_tin C d_M_count_1 (k := 4) (t := 67) q6 (by decide) (by decide) rfl (by decide) ?_
    refine x_aload_n C d_M_count_67 0 rfl ?_
    refine x_get C d_M_count_68 f_M_rowLong wd970 rfl rfl ?_
    exact x_retR hR d_M_count_71 hf trivial
  rcases x_ite hf with ⟨q7, hf⟩ | ⟨q7, hf⟩
  · refine x_tin C d_M_count_1 (k := 5) (t := 72) q7 (by decide) (by decide) rfl (by decide) ?_
    refine x_aload_n C d_M_count_72 0 rfl ?_
    refine x_get C d_M_count_73 f_M_taped wd981 rfl rfl ?_
    exact x_retR hR d_M_count_76 hf trivial
  rcases x_ite hf with ⟨q8, hf⟩ | ⟨q8, hf⟩
  · refine x_tin C d_M_count_1 (k := 6) (t := 77) q8 (by decide) (by decide) rfl (by decide) ?_
    refine x_aload_n C d_M_count_77 0 rfl ?_
    refine x_getr C d_M_count_78 f_M_lanes wd999 rfl rfl ?_
    refine x_iconst C d_M_count_81 0 ?_
    refine x_iald C d_M_count_82 rfl hf (fun hf => ?_)
    refine x_bipush C d_M_count_83 (-4) ?_
    refine x_icmp_ne C d_M_count_85 hf (fun hf => ?_) (fun hf => ?_)
    · refine x_bipush C d_M_count_88 (-4) ?_
      refine x_goto C d_M_count_90 ?_
      exact x_retR hR d_M_count_99 hf trivial
    refine x_aload_n C d_M_count_93 0 rfl ?_
    refine x_getr C d_M_count_94 f_M_sizes wd1000 rfl rfl ?_
    refine x_iconst C d_M_count_97 0 ?_
    refine x_iald C d_M_count_98 rfl hf (fun hf => ?_)
    exact x_retR hR d_M_count_99 hf trivial
  refine x_tout C d_M_count_1 (t := 100) (by have tq1 := lv_neT q1 (a := 0) (by decide); have tq2 := lv_neT q2 (a := 1) (by decide); have tq3 := lv_neT q3 (a := 2) (by decide); have tq5 := lv_neT q5 (a := 3) (by decide); have tq6 := lv_neT q6 (a := 4) (by decide); have tq7 := lv_neT q7 (a := 5) (by decide); have tq8 := lv_neT q8 (a := 6) (by decide); omega) (by decide) ?_
  refine x_iconst C d_M_count_100 (-1) ?_
  exact x_retR hR d_M_count_101 hf trivial
