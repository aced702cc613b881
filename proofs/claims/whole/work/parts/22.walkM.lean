set_option maxRecDepth 4000 in
theorem w_M_turned_L84 {w : Ww} {l0 : Launch} {x : Cx} {F : Nat} {p1 : Int32} {p2 : Int32} {rs : (Int32 × St)} {k6 : St → Int32 → Int32 → Int32 → Int32 → Option (Int32 × St)} (hnL : x.2.2.2.2.2.2.2.2.2.2.2.2 = 11) (C : XC shM w "NeighbourWiresModel" b_M_turned l0 4 x) (hR : RI shM w b_M_turned bzT rs x)  (hk6 : ∀ (S7 : St) (v8 : Int32) (v9 : Int32) (v10 : Int32) (v11 : Int32), k6 S7 v8 v9 v10 v11 = some rs → WX shM w x S7 192 [(2, .int p2), (4, .int v8), (5, .int v9), (6, .int v10), (7, .int v11)] []) : ∀ (n : Nat) (S12 : St) (v13 : Int32) (v14 : Int32) (v15 : Int32) (v16 : Int32) (v17 : Int32) (v18 : Int32), M_turned_L84 F p1 p2 k6 n S12 v13 v14 v15 v16 v17 v18 = some rs → WX shM w x S12 84 [(0, .ref (w.1 0)), (1, .int p1), (2, .int p2), (3, .int v13), (4, .int v14), (5, .int v15), (6, .int v16), (7, .int v17), (8, .int v18)] [] := by
  intro n
  induction n with
  | zero => intro S12 v13 v14 v15 v16 v17 v18 hf; cases hf
  | succ n ih =>
    intro S12 v13 v14 v15 v16 v17 v18 hf
    rw [M_turned_L84] at hf
    refine x_iload C d_M_turned_84 8 rfl ?_
    refine x_aload_n C d_M_turned_86 0 rfl ?_
    refine x_get C d_M_turned_87 f_M_rowLong wd970 rfl rfl ?_
    refine x_icmp_ge C d_M_turned_90 hf (fun hf => ?_) (fun hf => ?_)
    · refine x_aload_n C d_M_turned_93 0 rfl ?_
      refine x_iload_n C d_M_turned_94 1 rfl ?_
      refine x_iload_n C d_M_turned_95 3 rfl ?_
      refine x_iload C d_M_turned_96 8 rfl ?_
      refine x_cvi C d_M_turned_98 wd1270 cm_M_turnsNow rfl rfl [.int p1, .int v13, .int v18] rfl rfl (by decide) (Nat.le_of_ble_eq_true rfl) hf (fun _ _ h => m_M_turnsNow h) (fun v19 S20 hf hb_v19 => ?_)
      refine x_istore C d_M_turned_101 [(9, .int v19), (0, .ref (w.1 0)), (1, .int p1), (2, .int p2), (3, .int v13), (4, .int v14), (5, .int v15), (6, .int v16), (7, .int v17), (8, .int v18)] (by rw [hnL]; decide) rfl ?_
      refine x_aload_n C d_M_turned_103 1 rfl ?_
      refine x_aload_n C d_M_turned_104 1 rfl ?_
      refine x_getr C d_M_turned_105 f_M_words wd971 rfl rfl ?_
      refine x_iload C d_M_turned_108 9 rfl ?_
      refine x_iald C d_M_turned_110 rfl hf (fun hf => ?_)
      refine x_iload C d_M_turned_111 0 rfl ?_
      refine x_cvr C d_M_turned_113 wd1258 cm_M_lying rfl rfl [.int (S20.1 1 (Int32.toNatClampNeg v18)), .int v19] rfl rfl (by decide) (Nat.le_of_ble_eq_true rfl) hf (fun _ h => m_M_lying h) (fun v21 hf hb_v21 => ?_)
      refine x_istore C d_M_turned_116 [(10, .int v21), (9, .int v19), (0, .ref (w.1 0)), (1, .int p1), (2, .int p2), (3, .int v13), (4, .int v14), (5, .int v15), (6, .int v16), (7, .int v17), (8, .int v18)] (by rw [hnL]; decide) rfl ?_
      refine x_aload_n C d_M_turned_118 2 rfl ?_
      refine x_iload_n C d_M_turned_119 5 rfl ?_
      refine x_iload C d_M_turned_120 0 rfl ?_
      refine x_cvv C d_M_turned_122 wd1266 cm_M_widerMoves rfl rfl [.int v13, .int v21] rfl rfl (by decide) (Nat.le_of_ble_eq_true rfl) hf (fun _ h => m_M_widerMoves h) (fun S22 hf => ?_)
      refine x_iload C d_M_turned_125 6 rfl ?_
      refine x_aload_n C d_M_turned_127 2 rfl ?_
      refine x_cvr C d_M_turned_128 wd1176 cm_M_costNow rfl rfl [] rfl rfl (by decide) (Nat.le_of_ble_eq_true rfl) hf (fun _ h => m_M_costNow h) (fun v23 hf hb_v23 => ?_)
      refine x_iadd C d_M_turned_131 ?_
      refine x_bi hf (fun v24 hf => ?_)
      refine x_istore C d_M_turned_132 [(4, .int v24), (10, .int v21), (9, .int v19), (0, .ref (w.1 0)), (1, .int p1), (2, .int p2), (3, .int v13), (5, .int v15), (6, .int v16), (7, .int v17), (8, .int v18)] (by rw [hnL]; decide) rfl ?_
      refine x_aload_n C d_M_turned_134 3 rfl ?_
      refine x_cvr C d_M_turned_135 wd1188 cm_M_slowNow rfl rfl [] rfl rfl (by decide) (Nat.le_of_ble_eq_true rfl) hf (fun _ h => m_M_slowNow h) (fun v25 hf hb_v25 => ?_)
      refine x_iload C d_M_turned_138 9 rfl ?_
      refine x_jn (fun J27 => ∀ (v26 : Int32), J27 v26 = some rs → WX shM w x S22 152 [(0, .ref (w.1 0)), (1, .int p1), (2, .int p2), (4, .int v24), (5, .int v15), (6, .int v16), (8, .int v18), (9, .int v19), (10, .int v21)] [.int v26]) hf (fun v26 hf => ?_) (fun J27 hJ27 hf => ?_)
      · refine x_istore C d_M_turned_152 [(7, .int v26), (0, .ref (w.1 0)), (1, .int p1), (2, .int p2), (4, .int v24), (5, .int v15), (6, .int v16), (8, .int v18), (9, .int v19), (10, .int v21)] (by rw [hnL]; decide) rfl ?_
        refine x_iload C d_M_turned_154 5 rfl ?_
        refine x_iload C d_M_turned_156 8 rfl ?_
        refine x_iadd C d_M_turned_158 ?_
        refine x_bi hf (fun v28 hf => ?_)
        refine x_istore C d_M_turned_159 [(5, .int v28), (7, .int v26), (0, .ref (w.1 0)), (1, .int p1), (2, .int p2), (4, .int v24), (6, .int v16), (8, .int v18), (9, .int v19), (10, .int v21)] (by rw [hnL]; decide) rfl ?_
        refine x_iload C d_M_turned_161 8 rfl ?_
        refine x_iconst C d_M_turned_163 1 ?_
        refine x_jn (fun J30 => ∀ (v29 : Int32), J30 v29 = some rs → WX shM w x S22 181 [(0, .ref (w.1 0)), (1, .int p1), (2, .int p2), (4, .int v24), (5, .int v28), (7, .int v26), (8, .int v18), (10, .int v21)] [.int v29]) hf (fun v29 hf => ?_) (fun J30 hJ30 hf => ?_)
        · refine x_istore C d_M_turned_181 [(6, .int v29), (0, .ref (w.1 0)), (1, .int p1), (2, .int p2), (4, .int v24), (5, .int v28), (7, .int v26), (8, .int v18), (10, .int v21)] (by rw [hnL]; decide) rfl ?_
          refine x_iload C d_M_turned_183 8 rfl ?_
          refine x_istore_n C d_M_turned_185 [(3, .int v21), (6, .int v29), (0, .ref (w.1 0)), (1, .int p1), (2, .int p2), (4, .int v24), (5, .int v28), (7, .int v26), (8, .int v18), (10, .int v21)] (by rw [hnL]; decide) rfl ?_
          refine x_iinc C 1 d_M_turned_186 8 rfl (by rw [hnL]; decide) hf (fun v31 => [(8, .int v31), (3, .int v21), (6, .int v29), (0, .ref (w.1 0)), (1, .int p1), (2, .int p2), (4, .int v24), (5, .int v28), (7, .int v26), (10, .int v21)]) (fun _ => rfl) (fun v31 hf => ?_)
          refine x_goto C d_M_turned_189 ?_
          refine x_sub [3, 4, 5, 1, 6, 7, 2, 8, 0] rfl ?_
          exact ih S22 v21 v24 v28 v29 v26 v31 hf
        refine x_jn (fun J32 => J32  = some rs → WX shM w x S22 179 [(0, .ref (w.1 0)), (1, .int p1), (2, .int p2), (4, .int v24), (5, .int v28), (6, .int v16), (7, .int v26), (8, .int v18), (10, .int v21)] []) hf (fun hf => ?_) (fun J32 hJ32 hf => ?_)
        · refine x_iload C d_M_turned_179 5 rfl ?_
          refine x_sub [0, 1, 2, 3, 4, 6, 7, 8] rfl ?_
          exact hJ30 v16 hf
        refine x_icmp_ne C d_M_turned_164 hf (fun hf => ?_) (fun hf => ?_)
        · refine x_iload C d_M_turned_167 6 rfl ?_
          refine x_bipush C d_M_turned_169 (-4) ?_
          refine x_icmp_ne C d_M_turned_171 hf (fun hf => ?_) (fun hf => ?_)
          · refine x_iload C d_M_turned_174 7 rfl ?_
            refine x_goto C d_M_turned_176 ?_
            refine x_sub [2, 3, 4, 5, 0, 1, 7, 9] rfl ?_
            exact hJ30 v18 hf
          refine x_sub [2, 3, 4, 5, 0, 6, 1, 7, 9] rfl ?_
          exact hJ32  hf
        refine x_sub [2, 3, 4, 5, 0, 6, 1, 7, 9] rfl ?_
        exact hJ32  hf
      refine x_icmp_le C d_M_turned_140 hf (fun hf => ?_) (fun hf => ?_)
      · refine x_aload_n C d_M_turned_143 3 rfl ?_
        refine x_cvr C d_M_turned_144 wd1188 cm_M_slowNow rfl rfl [] rfl rfl (by decide) (Nat.le_of_ble_eq_true rfl) hf (fun _ h => m_M_slowNow h) (fun v33 hf hb_v33 => ?_)
        refine x_goto C d_M_turned_147 ?_
        refine x_sub [3, 4, 5, 0, 7, 8, 10, 2, 1] rfl ?_
        exact hJ27 v33 hf
      refine x_iload C d_M_turned_150 9 rfl ?_
      refine x_sub [3, 4, 5, 0, 7, 8, 10, 2, 1] rfl ?_
      exact hJ27 v17 hf
    refine x_sub [2, 4, 5, 6, 7] rfl ?_
    exact hk6 S12 v14 v15 v16 v17 hf
set_option maxRecDepth 4000 in
theorem w_M_turned_L28 {w : Ww} {l0 : Launch} {x : Cx} {F : Nat} {p1 : Int32} {p2 : Int32} {rs : (Int32 × St)} {k3 : St → Option (Int32 × St)} (hnL : x.2.2.2.2.2.2.2.2.2.2.2.2 = 11) (C : XC shM w "NeighbourWiresModel" b_M_turned l0 4 x) (hR : RI shM w b_M_turned bzT rs x)  (hk3 : ∀ (S4 : St), k3 S4 = some rs → WX shM w x S4 62 [(0, .ref (w.1 0)), (1, .int p1), (2, .int p2)] []) : ∀ (n : Nat) (S34 : St) (v35 : Int32), M_turned_L28 F p1 p2 k3 n S34 v35 = some rs → WX shM w x S34 28 [(0, .ref (w.1 0)), (1, .int p1), (2, .int p2), (3, .int v35)] [] := by
  intro n
  induction n with
  | zero => intro S34 v35 hf; cases hf
  | succ n ih =>
    intro S34 v35 hf
    rw [M_turned_L28] at hf
    refine x_iload_n C d_M_turned_28 3 rfl ?_
    refine x_iconst C d_M_turned_29 2 ?_
    refine x_icmp_ge C d_M_turned_30 hf (fun hf => ?_) (fun hf => ?_)
    · refine x_aload_n C d_M_turned_33 0 rfl ?_
      refine x_get C d_M_turned_34 f_M_rowLong wd970 rfl rfl ?_
      refine x_if_le C d_M_turned_37 hf (fun hf => ?_) (fun hf => ?_)
      · refine x_aload_n C d_M_turned_40 0 rfl ?_
        refine x_getr C d_M_turned_41 f_M_toCome wd994 rfl rfl ?_
        refine x_iconst C d_M_turned_44 2 ?_
        refine x_aload_n C d_M_turned_45 0 rfl ?_
        refine x_get C d_M_turned_46 f_M_rowLong wd970 rfl rfl ?_
        refine x_imul C d_M_turned_49 ?_
        refine x_iconst C d_M_turned_50 2 ?_
        refine x_isub C d_M_turned_51 ?_
        refine x_iload_n C d_M_turned_52 3 rfl ?_
        refine x_iadd C d_M_turned_53 ?_
        refine x_iconst C d_M_turned_54 0 ?_
        refine x_iast C d_M_turned_55 rfl hf (fun S36 hf => ?_)
        refine x_iinc C 1 d_M_turned_56 3 rfl (by rw [hnL]; decide) hf (fun v37 => [(3, .int v37), (0, .ref (w.1 0)), (1, .int p1), (2, .int p2)]) (fun _ => rfl) (fun v37 hf => ?_)
        refine x_goto C d_M_turned_59 ?_
        refine x_sub [1, 2, 3, 0] rfl ?_
        exact ih S36 v37 hf
      refine x_sub [0, 1, 2] rfl ?_
      exact hk3 S34 hf
    refine x_sub [0, 1, 2] rfl ?_
    exact hk3 S34 hf
set_option maxRecDepth 4000 in
theorem m_M_turned {w : Ww} {l0 : Launch} {F : Nat} {S : St} {p1 : Int32} {p2 : Int32} {r : Int32} {S9 : St}  (hf : M_turned F S p1 p2 = some (r, S9)) : MI shM w l0 y_M_turned b_M_turned 11 .int 4 [.ref (w.1 0), .int p1, .int p2] S r S9 bzT := by
  refine MI.of (by decide) (Nat.le_of_ble_eq_true rfl) rfl (fun _ _ => rfl) (fun x hnL C hR => ?_)
  rw [M_turned] at hf
  refine x_iload_n C d_M_turned_0 1 rfl ?_
  refine x_i2l C d_M_turned_1 ?_
  refine x_lconst C d_M_turned_2 0 ?_
  refine x_ldc2 C d_M_turned_3 wd1163 ?_
  refine x_csr C d_M_turned_6 wd1088 cm_M_in [.long (Int32.toInt64 p1), .long 0, .long 3] rfl rfl (by decide) (Nat.le_of_ble_eq_true rfl) hf (fun _ h => m_M_in h) (fun v1 hf hb_v1 => ?_)
  refine x_if_eq C d_M_turned_9 hf (fun hf => ?_) (fun hf => ?_)
  · refine x_iconst C d_M_turned_24 (-1) ?_
    exact hR _ _ _ _ d_M_turned_25.1 hf trivial
  refine x_iload_n C d_M_turned_12 2 rfl ?_
  refine x_i2l C d_M_turned_13 ?_
  refine x_lconst C d_M_turned_14 0 ?_
  refine x_ldc2 C d_M_turned_15 wd1163 ?_
  refine x_csr C d_M_turned_18 wd1088 cm_M_in [.long (Int32.toInt64 p2), .long 0, .long 3] rfl rfl (by decide) (Nat.le_of_ble_eq_true rfl) hf (fun _ h => m_M_in h) (fun v2 hf hb_v2 => ?_)
  refine x_if_ne C d_M_turned_21 hf (fun hf => ?_) (fun hf => ?_)
  · refine x_iconst C d_M_turned_24 (-1) ?_
    exact hR _ _ _ _ d_M_turned_25.1 hf trivial
  refine x_iconst C d_M_turned_26 0 ?_
  refine x_istore_n C d_M_turned_27 [(3, .int 0), (0, .ref (w.1 0)), (1, .int p1), (2, .int p2)] (by rw [hnL]; decide) rfl ?_
  refine x_sub [1, 2, 3, 0] rfl ?_
  refine w_M_turned_L28 hnL C hR (fun S4 hf => ?_) F S 0 hf
  refine x_aload_n C d_M_turned_62 0 rfl ?_
  refine x_cvv C d_M_turned_63 wd1254 cm_M_findToCome rfl rfl [] rfl rfl (by decide) (Nat.le_of_ble_eq_true rfl) hf (fun _ h => m_M_findToCome h) (fun S5 hf => ?_)
  refine x_iconst C d_M_turned_66 0 ?_
  refine x_istore_n C d_M_turned_67 [(3, .int 0), (0, .ref (w.1 0)), (1, .int p1), (2, .int p2)] (by rw [hnL]; decide) rfl ?_
  refine x_iconst C d_M_turned_68 0 ?_
  refine x_istore C d_M_turned_69 [(4, .int 0), (3, .int 0), (0, .ref (w.1 0)), (1, .int p1), (2, .int p2)] (by rw [hnL]; decide) rfl ?_
  refine x_iconst C d_M_turned_71 0 ?_
  refine x_istore C d_M_turned_72 [(5, .int 0), (4, .int 0), (3, .int 0), (0, .ref (w.1 0)), (1, .int p1), (2, .int p2)] (by rw [hnL]; decide) rfl ?_
  refine x_bipush C d_M_turned_74 (-4) ?_
  refine x_istore C d_M_turned_76 [(6, .int (-4)), (5, .int 0), (4, .int 0), (3, .int 0), (0, .ref (w.1 0)), (1, .int p1), (2, .int p2)] (by rw [hnL]; decide) rfl ?_
  refine x_iconst C d_M_turned_78 0 ?_
  refine x_istore C d_M_turned_79 [(7, .int 0), (6, .int (-4)), (5, .int 0), (4, .int 0), (3, .int 0), (0, .ref (w.1 0)), (1, .int p1), (2, .int p2)] (by rw [hnL]; decide) rfl ?_
  refine x_iconst C d_M_turned_81 0 ?_
  refine x_istore C d_M_turned_82 [(8, .int 0), (7, .int 0), (6, .int (-4)), (5, .int 0), (4, .int 0), (3, .int 0), (0, .ref (w.1 0)), (1, .int p1), (2, .int p2)] (by rw [hnL]; decide) rfl ?_
  refine x_sub [6, 7, 8, 5, 4, 3, 2, 1, 0] rfl ?_
  refine w_M_turned_L84 hnL C hR (fun S7 v8 v9 v10 v11 hf => ?_) F S5 0 0 0 (-4) 0 0 hf
  refine x_iload_n C d_M_turned_192 0 rfl ?_
  refine x_if_ne C d_M_turned_193 hf (fun hf => ?_) (fun hf => ?_)
  · refine x_iload C d_M_turned_196 1 rfl ?_
    refine x_goto C d_M_turned_198 ?_
    exact hR _ _ _ _ d_M_turned_223.1 hf trivial
  refine x_iload_n C d_M_turned_201 0 rfl ?_
  refine x_iconst C d_M_turned_202 1 ?_
  refine x_icmp_ne C d_M_turned_203 hf (fun hf => ?_) (fun hf => ?_)
  · refine x_iload C d_M_turned_206 2 rfl ?_
    refine x_goto C d_M_turned_208 ?_
    exact hR _ _ _ _ d_M_turned_223.1 hf trivial
  refine x_iload_n C d_M_turned_211 0 rfl ?_
  refine x_iconst C d_M_turned_212 2 ?_
  refine x_icmp_ne C d_M_turned_213 hf (fun hf => ?_) (fun hf => ?_)
  · refine x_iload C d_M_turned_216 3 rfl ?_
    refine x_goto C d_M_turned_218 ?_
    exact hR _ _ _ _ d_M_turned_223.1 hf trivial
  refine x_iload C d_M_turned_221 4 rfl ?_
  exact hR _ _ _ _ d_M_turned_223.1 hf trivial
set_option maxRecDepth 4000 in
theorem w_M_isIn_L5 {w : Ww} {l0 : Launch} {x : Cx} {F : Nat} {p1 : Int32} {p2 : Int32} {S : St} {rs : Int32}  (hnL : x.2.2.2.2.2.2.2.2.2.2.2.2 = 8) (C : XC shM w "NeighbourWiresModel" b_M_isIn l0 0 x) (hR : RI shM w b_M_isIn bz01 (rs, S) x)   : ∀ (n : Nat) (v1 : Int32) (v2 : Int32), M_isIn_L5 F p1 p2 S n v1 v2 = some rs → WX shM w x S 5 [(0, .ref (w.1 0)), (1, .int p1), (2, .int p2), (3, .int v1), (4, .int v2)] [] := by
  intro n
  induction n with
  | zero => intro v1 v2 hf; cases hf
  | succ n ih =>
    intro v1 v2 hf
    rw [M_isIn_L5] at hf
    refine x_iload C d_M_isIn_5 4 rfl ?_
    refine x_aload_n C d_M_isIn_7 0 rfl ?_
    refine x_get C d_M_isIn_8 f_M_wires wd966 rfl rfl ?_
    refine x_icmp_ge C d_M_isIn_11 hf (fun hf => ?_) (fun hf => ?_)
    · refine x_iload_n C d_M_isIn_14 2 rfl ?_
      refine x_iload C d_M_isIn_15 4 rfl ?_
      refine x_ishr C d_M_isIn_17 ?_
      refine x_iconst C d_M_isIn_18 1 ?_
      refine x_iand C d_M_isIn_19 ?_
      refine x_bi hf (fun v3 hf => ?_)
      refine x_istore C d_M_isIn_20 [(5, .int v3), (0, .ref (w.1 0)), (1, .int p1), (2, .int p2), (3, .int v1), (4, .int v2)] (by rw [hnL]; decide) rfl ?_
      refine x_iload C d_M_isIn_22 5 rfl ?_
      refine x_jn (fun J5 => ∀ (v4 : Int32), J5 v4 = some rs → WX shM w x S 40 [(0, .ref (w.1 0)), (1, .int p1), (2, .int p2), (3, .int v1), (4, .int v2), (5, .int v3)] [.int v4]) hf (fun v4 hf => ?_) (fun J5 hJ5 hf => ?_)
      · refine x_istore C d_M_isIn_40 [(6, .int v4), (0, .ref (w.1 0)), (1, .int p1), (2, .int p2), (3, .int v1), (4, .int v2), (5, .int v3)] (by rw [hnL]; decide) rfl ?_
        refine x_iload C d_M_isIn_42 5 rfl ?_
        refine x_aload_n C d_M_isIn_44 1 rfl ?_
        refine x_get C d_M_isIn_45 f_M_wires wd966 rfl rfl ?_
        refine x_iconst C d_M_isIn_48 1 ?_
        refine x_isub C d_M_isIn_49 ?_
        refine x_jn (fun J7 => ∀ (v6 : Int32), J7 v6 = some rs → WX shM w x S 66 [(0, .ref (w.1 0)), (1, .int p1), (2, .int p2), (3, .int v1), (4, .int v2), (5, .int v3), (6, .int v4)] [.int v6]) hf (fun v6 hf => ?_) (fun J7 hJ7 hf => ?_)
        · refine x_istore C d_M_isIn_66 [(7, .int v6), (0, .ref (w.1 0)), (1, .int p1), (2, .int p2), (3, .int v1), (4, .int v2), (5, .int v3), (6, .int v4)] (by rw [hnL]; decide) rfl ?_
          refine x_iload_n C d_M_isIn_68 2 rfl ?_
          refine x_jn (fun J9 => ∀ (v8 : Int32), J9 v8 = some rs → WX shM w x S 168 [(0, .ref (w.1 0)), (1, .int p1), (2, .int p2), (3, .int v8), (4, .int v2)] []) hf (fun v8 hf => ?_) (fun J9 hJ9 hf => ?_)
          · refine x_iinc C 1 d_M_isIn_168 4 rfl (by rw [hnL]; decide) hf (fun v10 => [(4, .int v10), (0, .ref (w.1 0)), (1, .int p1), (2, .int p2), (3, .int v8)]) (fun _ => rfl) (fun v10 hf => ?_)
            refine x_goto C d_M_isIn_171 ?_
            refine x_sub [1, 2, 3, 4, 0] rfl ?_
            exact ih v8 v10 hf
          refine x_if_ne C d_M_isIn_69 hf (fun hf => ?_) (fun hf => ?_)
          · refine x_iload_n C d_M_isIn_72 4 rfl ?_
            refine x_jn (fun J12 => ∀ (v11 : Int32), J12 v11 = some rs → WX shM w x S 111 [(0, .ref (w.1 0)), (1, .int p1), (2, .int p2), (4, .int v2)] [.int v11]) hf (fun v11 hf => ?_) (fun J12 hJ12 hf => ?_)
            · refine x_istore_n C d_M_isIn_111 [(3, .int v11), (0, .ref (w.1 0)), (1, .int p1), (2, .int p2), (4, .int v2)] (by rw [hnL]; decide) rfl ?_
              refine x_goto C d_M_isIn_112 ?_
              refine x_sub [1, 2, 3, 0, 4] rfl ?_
              exact hJ9 v11 hf
            refine x_jn (fun J13 => J13  = some rs → WX shM w x S 110 [(0, .ref (w.1 0)), (1, .int p1), (2, .int p2), (4, .int v2)] []) hf (fun hf => ?_) (fun J13 hJ13 hf => ?_)
            · refine x_iconst C d_M_isIn_110 0 ?_
              exact hJ12 0 hf
            refine x_if_eq C d_M_isIn_73 hf (fun hf => ?_) (fun hf => ?_)
            · refine x_sub [1, 2, 3, 5] rfl ?_
              exact hJ13  hf
            refine x_iload C d_M_isIn_76 5 rfl ?_
            refine x_jn (fun J14 => J14  = some rs → WX shM w x S 106 [(0, .ref (w.1 0)), (1, .int p1), (2, .int p2), (4, .int v2)] []) hf (fun hf => ?_) (fun J14 hJ14 hf => ?_)
            · refine x_iconst C d_M_isIn_106 1 ?_
              refine x_goto C d_M_isIn_107 ?_
              exact hJ12 1 hf
            refine x_if_eq C d_M_isIn_78 hf (fun hf => ?_) (fun hf => ?_)
            · refine x_sub [1, 2, 3, 5] rfl ?_
              exact hJ14  hf
            refine x_iload C d_M_isIn_81 5 rfl ?_
            refine x_aload_n C d_M_isIn_83 1 rfl ?_
            refine x_get C d_M_isIn_84 f_M_wires wd966 rfl rfl ?_
            refine x_iconst C d_M_isIn_87 1 ?_
            refine x_isub C d_M_isIn_88 ?_
            refine x_icmp_eq C d_M_isIn_89 hf (fun hf => ?_) (fun hf => ?_)
            · refine x_sub [1, 2, 3, 5] rfl ?_
              exact hJ14  hf
            refine x_iload C d_M_isIn_92 7 rfl ?_
            refine x_iload C d_M_isIn_94 6 rfl ?_
            refine x_icmp_eq C d_M_isIn_96 hf (fun hf => ?_) (fun hf => ?_)
            · refine x_sub [1, 2, 3, 5] rfl ?_
              exact hJ14  hf
            refine x_iload C d_M_isIn_99 0 rfl ?_
            refine x_iload C d_M_isIn_101 6 rfl ?_
            refine x_icmp_ne C d_M_isIn_103 hf (fun hf => ?_) (fun hf => ?_)
            · refine x_sub [1, 2, 3, 5] rfl ?_
              exact hJ14  hf
            refine x_sub [1, 2, 3, 5] rfl ?_
            exact hJ13  hf
          refine x_iload C d_M_isIn_115 5 rfl ?_
          refine x_aload_n C d_M_isIn_117 1 rfl ?_
          refine x_get C d_M_isIn_118 f_M_wires wd966 rfl rfl ?_
          refine x_iconst C d_M_isIn_121 1 ?_
          refine x_isub C d_M_isIn_122 ?_
          refine x_icmp_ge C d_M_isIn_123 hf (fun hf => ?_) (fun hf => ?_)
          · refine x_iload_n C d_M_isIn_126 4 rfl ?_
            refine x_jn (fun J16 => ∀ (v15 : Int32), J16 v15 = some rs → WX shM w x S 167 [(0, .ref (w.1 0)), (1, .int p1), (2, .int p2), (4, .int v2)] [.int v15]) hf (fun v15 hf => ?_) (fun J16 hJ16 hf => ?_)
            · refine x_istore_n C d_M_isIn_167 [(3, .int v15), (0, .ref (w.1 0)), (1, .int p1), (2, .int p2), (4, .int v2)] (by rw [hnL]; decide) rfl ?_
              refine x_sub [1, 2, 3, 0, 4] rfl ?_
              exact hJ9 v15 hf
            refine x_jn (fun J17 => J17  = some rs → WX shM w x S 166 [(0, .ref (w.1 0)), (1, .int p1), (2, .int p2), (4, .int v2)] []) hf (fun hf => ?_) (fun J17 hJ17 hf => ?_)
            · refine x_iconst C d_M_isIn_166 0 ?_
              exact hJ16 0 hf
            refine x_if_eq C d_M_isIn_127 hf (fun hf => ?_) (fun hf => ?_)
            · refine x_sub [1, 2, 3, 5] rfl ?_
              exact hJ17  hf
            refine x_iload C d_M_isIn_130 5 rfl ?_
            refine x_iconst C d_M_isIn_132 2 ?_
            refine x_irem C d_M_isIn_133 (by decide) ?_
            refine x_jn (fun J18 => J18  = some rs → WX shM w x S 162 [(0, .ref (w.1 0)), (1, .int p1), (2, .int p2), (4, .int v2)] []) hf (fun hf => ?_) (fun J18 hJ18 hf => ?_)
            · refine x_iconst C d_M_isIn_162 1 ?_
              refine x_goto C d_M_isIn_163 ?_
              exact hJ16 1 hf
            refine x_if_ne C d_M_isIn_134 hf (fun hf => ?_) (fun hf => ?_)
            · refine x_iload C d_M_isIn_137 6 rfl ?_
              refine x_iconst C d_M_isIn_139 1 ?_
              refine x_icmp_eq C d_M_isIn_140 hf (fun hf => ?_) (fun hf => ?_)
              · refine x_sub [1, 2, 3, 5] rfl ?_
                exact hJ18  hf
              refine x_iload C d_M_isIn_143 0 rfl ?_
              refine x_if_ne C d_M_isIn_145 hf (fun hf => ?_) (fun hf => ?_)
              · refine x_goto C d_M_isIn_148 ?_
                refine x_sub [1, 2, 3, 5] rfl ?_
                exact hJ18  hf
              refine x_sub [1, 2, 3, 5] rfl ?_
              exact hJ17  hf
            refine x_iload C d_M_isIn_151 6 rfl ?_
            refine x_if_eq C d_M_isIn_153 hf (fun hf => ?_) (fun hf => ?_)
            · refine x_sub [1, 2, 3, 5] rfl ?_
              exact hJ18  hf
            refine x_iload C d_M_isIn_156 0 rfl ?_
            refine x_iconst C d_M_isIn_158 1 ?_
            refine x_icmp_ne C d_M_isIn_159 hf (fun hf => ?_) (fun hf => ?_)
            · refine x_sub [1, 2, 3, 5] rfl ?_
              exact hJ18  hf
            refine x_sub [1, 2, 3, 5] rfl ?_
            exact hJ17  hf
          refine x_sub [1, 2, 3, 4, 5] rfl ?_
          exact hJ9 v1 hf
        refine x_icmp_ge C d_M_isIn_50 hf (fun hf => ?_) (fun hf => ?_)
        · refine x_iload_n C d_M_isIn_53 3 rfl ?_
          refine x_iload C d_M_isIn_54 5 rfl ?_
          refine x_iconst C d_M_isIn_56 1 ?_
          refine x_iadd C d_M_isIn_57 ?_
          refine x_ishr C d_M_isIn_58 ?_
          refine x_iconst C d_M_isIn_59 1 ?_
          refine x_iand C d_M_isIn_60 ?_
          refine x_goto C d_M_isIn_61 ?_
          refine x_sub [1, 2, 3, 4, 5, 6, 0] rfl ?_
          exact hJ7 ((jshr p2 (v2 + 1)) &&& 1) hf
        refine x_iload C d_M_isIn_64 6 rfl ?_
        refine x_sub [1, 2, 3, 4, 5, 6, 0] rfl ?_
        exact hJ7 v3 hf
      refine x_if_le C d_M_isIn_24 hf (fun hf => ?_) (fun hf => ?_)
      · refine x_iload_n C d_M_isIn_27 3 rfl ?_
        refine x_iload C d_M_isIn_28 5 rfl ?_
        refine x_iconst C d_M_isIn_30 1 ?_
        refine x_isub C d_M_isIn_31 ?_
        refine x_ishr C d_M_isIn_32 ?_
        refine x_iconst C d_M_isIn_33 1 ?_
        refine x_iand C d_M_isIn_34 ?_
        refine x_goto C d_M_isIn_35 ?_
        refine x_sub [1, 2, 3, 4, 5, 0] rfl ?_
        exact hJ5 ((jshr p2 (v2 - 1)) &&& 1) hf
      refine x_iload C d_M_isIn_38 0 rfl ?_
      refine x_sub [1, 2, 3, 4, 5, 0] rfl ?_
      exact hJ5 v3 hf
    refine x_iload_n C d_M_isIn_174 3 rfl ?_
    obtain ⟨hbz, hf⟩ := zk_in hf
    exact x_retR hR d_M_isIn_175 hf hbz
set_option maxRecDepth 4000 in
theorem m_M_isIn {w : Ww} {l0 : Launch} {F : Nat} {S : St} {p1 : Int32} {p2 : Int32} {rs : Int32}  (hf : M_isIn F S p1 p2 = some rs) : MI shM w l0 y_M_isIn b_M_isIn 8 .boolean 0 [.ref (w.1 0), .int p1, .int p2] S rs S bz01 := by
  refine MI.of (by decide) (Nat.le_of_ble_eq_true rfl) rfl (fun v hb => by rcases hb with rfl | rfl <;> decide) (fun x hnL C hR => ?_)
  rw [M_isIn] at hf
  refine x_iconst C d_M_isIn_0 1 ?_
  refine x_istore_n C d_M_isIn_1 [(3, .int 1), (0, .ref (w.1 0)), (1, .int p1), (2, .int p2)] (by rw [hnL]; decide) rfl ?_
  refine x_iconst C d_M_isIn_2 0 ?_
  refine x_istore C d_M_isIn_3 [(4, .int 0), (3, .int 1), (0, .ref (w.1 0)), (1, .int p1), (2, .int p2)] (by rw [hnL]; decide) rfl ?_
  refine x_sub [2, 3, 4, 1, 0] rfl ?_
  exact w_M_isIn_L5 hnL C hR  F 1 0 hf
set_option maxRecDepth 4000 in
theorem w_M_book_L16 {w : Ww} {l0 : Launch} {x : Cx} {F : Nat} {p1 : Int32} {S : St} {rs : Int32}  (hnL : x.2.2.2.2.2.2.2.2.2.2.2.2 = 4) (C : XC shM w "NeighbourWiresModel" b_M_book l0 1 x) (hR : RI shM w b_M_book bzT (rs, S) x)   : ∀ (n : Nat) (v2 : Int32) (v3 : Int32), M_book_L16 F p1 S n v2 v3 = some rs → WX shM w x S 16 [(0, .ref (w.1 0)), (1, .int p1), (2, .int v2), (3, .int v3)] [] := by
  intro n
  induction n with
  | zero => intro v2 v3 hf; cases hf
  | succ n ih =>
    intro v2 v3 hf
    rw [M_book_L16] at hf
    refine x_iload_n C d_M_book_16 3 rfl ?_
    refine x_iconst C d_M_book_17 1 ?_
    refine x_aload_n C d_M_book_18 0 rfl ?_
    refine x_get C d_M_book_19 f_M_wires wd966 rfl rfl ?_
    refine x_ishl C d_M_book_22 ?_
    refine x_icmp_ge C d_M_book_23 hf (fun hf => ?_) (fun hf => ?_)
    · refine x_iload_n C d_M_book_26 2 rfl ?_
      refine x_aload_n C d_M_book_27 0 rfl ?_
      refine x_iload_n C d_M_book_28 1 rfl ?_
      refine x_iload_n C d_M_book_29 3 rfl ?_
      refine x_cvr C d_M_book_30 wd1278 cm_M_isIn rfl rfl [.int p1, .int v3] rfl rfl (by decide) (Nat.le_of_ble_eq_true rfl) hf (fun _ h => m_M_isIn h) (fun v4 hf hb_v4 => ?_)
      refine x_jn (fun J6 => ∀ (v5 : Int32), J6 v5 = some rs → WX shM w x S 41 [(0, .ref (w.1 0)), (1, .int p1), (3, .int v3)] [.int v5, .int v2]) hf (fun v5 hf => ?_) (fun J6 hJ6 hf => ?_)
      · refine x_iadd C d_M_book_41 ?_
        refine x_bi hf (fun v7 hf => ?_)
        refine x_istore_n C d_M_book_42 [(2, .int v7), (0, .ref (w.1 0)), (1, .int p1), (3, .int v3)] (by rw [hnL]; decide) rfl ?_
        refine x_iinc C 1 d_M_book_43 3 rfl (by rw [hnL]; decide) hf (fun v8 => [(3, .int v8), (2, .int v7), (0, .ref (w.1 0)), (1, .int p1)]) (fun _ => rfl) (fun v8 hf => ?_)
        refine x_goto C d_M_book_46 ?_
        refine x_sub [2, 3, 1, 0] rfl ?_
        exact ih v7 v8 hf
      refine x_if_eq C d_M_book_33 hf (fun hf => ?_) (fun hf => ?_)
      · refine x_iconst C d_M_book_40 0 ?_
        refine x_sub [0, 1, 3] rfl ?_
        exact hJ6 0 hf
      refine x_iconst C d_M_book_36 1 ?_
      refine x_goto C d_M_book_37 ?_
      refine x_sub [0, 1, 3] rfl ?_
      exact hJ6 1 hf
    refine x_iload_n C d_M_book_49 2 rfl ?_
    exact x_retR hR d_M_book_50 hf trivial
set_option maxRecDepth 4000 in
theorem m_M_book {w : Ww} {l0 : Launch} {F : Nat} {S : St} {p1 : Int32} {rs : Int32}  (hf : M_book F S p1 = some rs) : MI shM w l0 y_M_book b_M_book 4 .int 1 [.ref (w.1 0), .int p1] S rs S bzT := by
  refine MI.of (by decide) (Nat.le_of_ble_eq_true rfl) rfl (fun _ _ => rfl) (fun x hnL C hR => ?_)
  rw [M_book] at hf
  refine x_iload_n C d_M_book_0 1 rfl ?_
  refine x_i2l C d_M_book_1 ?_
  refine x_lconst C d_M_book_2 0 ?_
  refine x_lconst C d_M_book_3 1 ?_
  refine x_csr C d_M_book_4 wd1088 cm_M_in [.long (Int32.toInt64 p1), .long 0, .long 1] rfl rfl (by decide) (Nat.le_of_ble_eq_true rfl) hf (fun _ h => m_M_in h) (fun v1 hf hb_v1 => ?_)
  refine x_if_ne C d_M_book_7 hf (fun hf => ?_) (fun hf => ?_)
  · refine x_iconst C d_M_book_10 (-1) ?_
    exact x_retR hR d_M_book_11 hf trivial
  refine x_iconst C d_M_book_12 0 ?_
  refine x_istore_n C d_M_book_13 [(2, .int 0), (0, .ref (w.1 0)), (1, .int p1)] (by rw [hnL]; decide) rfl ?_
  refine x_iconst C d_M_book_14 0 ?_
  refine x_istore_n C d_M_book_15 [(3, .int 0), (2, .int 0), (0, .ref (w.1 0)), (1, .int p1)] (by rw [hnL]; decide) rfl ?_
  refine x_sub [2, 3, 1, 0] rfl ?_
  exact w_M_book_L16 hnL C hR  F 0 0 hf
set_option maxRecDepth 4000 in
theorem w_M_word_L21 {w : Ww} {l0 : Launch} {x : Cx} {F : Nat} {p1 : Int32} {p2 : Int32} {S : St} {rs : Int32}  (hnL : x.2.2.2.2.2.2.2.2.2.2.2.2 = 5) (C : XC shM w "NeighbourWiresModel" b_M_word l0 1 x) (hR : RI shM w b_M_word bzT (rs, S) x)   : ∀ (n : Nat) (v2 : Int32) (v3 : Int32), M_word_L21 F p1 p2 S n v2 v3 = some rs → WX shM w x S 21 [(0, .ref (w.1 0)), (1, .int p1), (2, .int p2), (3, .int v2), (4, .int v3)] [] := by
  intro n
  induction n with
  | zero => intro v2 v3 hf; cases hf
  | succ n ih =>
    intro v2 v3 hf
    rw [M_word_L21] at hf
    refine x_iload C d_M_word_21 4 rfl ?_
    refine x_iconst C d_M_word_23 1 ?_
    refine x_aload_n C d_M_word_24 0 rfl ?_
    refine x_get C d_M_word_25 f_M_wires wd966 rfl rfl ?_
    refine x_ishl C d_M_word_28 ?_
    refine x_icmp_ge C d_M_word_29 hf (fun hf => ?_) (fun hf => ?_)
    · refine x_aload_n C d_M_word_32 0 rfl ?_
      refine x_iload_n C d_M_word_33 1 rfl ?_
      refine x_iload C d_M_word_34 4 rfl ?_
      refine x_cvr C d_M_word_36 wd1278 cm_M_isIn rfl rfl [.int p1, .int v3] rfl rfl (by decide) (Nat.le_of_ble_eq_true rfl) hf (fun _ h => m_M_isIn h) (fun v4 hf hb_v4 => ?_)
      refine x_jn (fun J6 => ∀ (v5 : Int32), J6 v5 = some rs → WX shM w x S 53 [(0, .ref (w.1 0)), (1, .int p1), (2, .int p2), (3, .int v5), (4, .int v3)] []) hf (fun v5 hf => ?_) (fun J6 hJ6 hf => ?_)
      · refine x_iinc C 1 d_M_word_53 4 rfl (by rw [hnL]; decide) hf (fun v7 => [(4, .int v7), (0, .ref (w.1 0)), (1, .int p1), (2, .int p2), (3, .int v5)]) (fun _ => rfl) (fun v7 hf => ?_)
        refine x_goto C d_M_word_56 ?_
        refine x_sub [1, 2, 3, 4, 0] rfl ?_
        exact ih v5 v7 hf
      refine x_if_eq C d_M_word_39 hf (fun hf => ?_) (fun hf => ?_)
      · exact hJ6 v2 hf
      refine x_iload_n C d_M_word_42 3 rfl ?_
      refine x_iload_n C d_M_word_43 2 rfl ?_
      refine x_icmp_ne C d_M_word_44 hf (fun hf => ?_) (fun hf => ?_)
      · refine x_iload C d_M_word_47 4 rfl ?_
        exact x_retR hR d_M_word_49 hf trivial
      refine x_iinc C 1 d_M_word_50 3 rfl (by rw [hnL]; decide) hf (fun v8 => [(3, .int v8), (0, .ref (w.1 0)), (1, .int p1), (2, .int p2), (4, .int v3)]) (fun _ => rfl) (fun v8 hf => ?_)
      refine x_sub [1, 2, 3, 0, 4] rfl ?_
      exact hJ6 v8 hf
    refine x_bipush C d_M_word_59 (-4) ?_
    exact x_retR hR d_M_word_61 hf trivial
set_option maxRecDepth 4000 in
theorem m_M_word {w : Ww} {l0 : Launch} {F : Nat} {S : St} {p1 : Int32} {p2 : Int32} {rs : Int32}  (hf : M_word F S p1 p2 = some rs) : MI shM w l0 y_M_word b_M_word 5 .int 1 [.ref (w.1 0), .int p1, .int p2] S rs S bzT := by
  refine MI.of (by decide) (Nat.le_of_ble_eq_true rfl) rfl (fun _ _ => rfl) (fun x hnL C hR => ?_)
  rw [M_word] at hf
  refine x_iload_n C d_M_word_0 1 rfl ?_
  refine x_i2l C d_M_word_1 ?_
  refine x_lconst C d_M_word_2 0 ?_
  refine x_lconst C d_M_word_3 1 ?_
  refine x_csr C d_M_word_4 wd1088 cm_M_in [.long (Int32.toInt64 p1), .long 0, .long 1] rfl rfl (by decide) (Nat.le_of_ble_eq_true rfl) hf (fun _ h => m_M_in h) (fun v1 hf hb_v1 => ?_)
  refine x_if_eq C d_M_word_7 hf (fun hf => ?_) (fun hf => ?_)
  · refine x_iconst C d_M_word_14 (-1) ?_
    exact x_retR hR d_M_word_15 hf trivial
  refine x_iload_n C d_M_word_10 2 rfl ?_
  refine x_if_ge C d_M_word_11 hf (fun hf => ?_) (fun hf => ?_)
  · refine x_iconst C d_M_word_14 (-1) ?_
    exact x_retR hR d_M_word_15 hf trivial
  refine x_iconst C d_M_word_16 0 ?_
  refine x_istore_n C d_M_word_17 [(3, .int 0), (0, .ref (w.1 0)), (1, .int p1), (2, .int p2)] (by rw [hnL]; decide) rfl ?_
  refine x_iconst C d_M_word_18 0 ?_
  refine x_istore C d_M_word_19 [(4, .int 0), (3, .int 0), (0, .ref (w.1 0)), (1, .int p1), (2, .int p2)] (by rw [hnL]; decide) rfl ?_
  refine x_sub [2, 3, 4, 1, 0] rfl ?_
  exact w_M_word_L21 hnL C hR  F 0 0 hf
set_option maxRecDepth 4000 in
theorem w_M_place_L25 {w : Ww} {l0 : Launch} {x : Cx} {F : Nat} {p1 : Int32} {p2 : Int32} {S : St} {rs : Int32} {k3 : Int32 → Option Int32} (hnL : x.2.2.2.2.2.2.2.2.2.2.2.2 = 5) (C : XC shM w "NeighbourWiresModel" b_M_place l0 2 x) (hR : RI shM w b_M_place bzT (rs, S) x)  (hk3 : ∀ (v4 : Int32), k3 v4 = some rs → WX shM w x S 55 [(0, .ref (w.1 0)), (1, .int p1), (2, .int p2), (3, .int v4)] []) : ∀ (n : Nat) (v6 : Int32) (v7 : Int32), M_place_L25 F p1 p2 S k3 n v6 v7 = some rs → WX shM w x S 25 [(0, .ref (w.1 0)), (1, .int p1), (2, .int p2), (3, .int v6), (4, .int v7)] [] := by
  intro n
  induction n with
  | zero => intro v6 v7 hf; cases hf
  | succ n ih =>
    intro v6 v7 hf
    rw [M_place_L25] at hf
    refine x_iload C d_M_place_25 4 rfl ?_
    refine x_iload_n C d_M_place_27 2 rfl ?_
    refine x_icmp_ge C d_M_place_28 hf (fun hf => ?_) (fun hf => ?_)
    · refine x_iload_n C d_M_place_31 3 rfl ?_
      refine x_aload_n C d_M_place_32 0 rfl ?_
      refine x_iload_n C d_M_place_33 1 rfl ?_
      refine x_iload C d_M_place_34 4 rfl ?_
      refine x_cvr C d_M_place_36 wd1278 cm_M_isIn rfl rfl [.int p1, .int v7] rfl rfl (by decide) (Nat.le_of_ble_eq_true rfl) hf (fun _ h => m_M_isIn h) (fun v8 hf hb_v8 => ?_)
      refine x_jn (fun J10 => ∀ (v9 : Int32), J10 v9 = some rs → WX shM w x S 47 [(0, .ref (w.1 0)), (1, .int p1), (2, .int p2), (4, .int v7)] [.int v9, .int v6]) hf (fun v9 hf => ?_) (fun J10 hJ10 hf => ?_)
      · refine x_iadd C d_M_place_47 ?_
        refine x_bi hf (fun v11 hf => ?_)
        refine x_istore_n C d_M_place_48 [(3, .int v11), (0, .ref (w.1 0)), (1, .int p1), (2, .int p2), (4, .int v7)] (by rw [hnL]; decide) rfl ?_
        refine x_iinc C 1 d_M_place_49 4 rfl (by rw [hnL]; decide) hf (fun v12 => [(4, .int v12), (3, .int v11), (0, .ref (w.1 0)), (1, .int p1), (2, .int p2)]) (fun _ => rfl) (fun v12 hf => ?_)
        refine x_goto C d_M_place_52 ?_
        refine x_sub [2, 3, 4, 1, 0] rfl ?_
        exact ih v11 v12 hf
      refine x_if_eq C d_M_place_39 hf (fun hf => ?_) (fun hf => ?_)
      · refine x_iconst C d_M_place_46 0 ?_
        refine x_sub [0, 1, 2, 4] rfl ?_
        exact hJ10 0 hf
      refine x_iconst C d_M_place_42 1 ?_
      refine x_goto C d_M_place_43 ?_
      refine x_sub [0, 1, 2, 4] rfl ?_
      exact hJ10 1 hf
    refine x_sub [0, 1, 2, 3] rfl ?_
    exact hk3 v6 hf
set_option maxRecDepth 4000 in
theorem m_M_place {w : Ww} {l0 : Launch} {F : Nat} {S : St} {p1 : Int32} {p2 : Int32} {rs : Int32}  (hf : M_place F S p1 p2 = some rs) : MI shM w l0 y_M_place b_M_place 5 .int 2 [.ref (w.1 0), .int p1, .int p2] S rs S bzT := by
  refine MI.of (by decide) (Nat.le_of_ble_eq_true rfl) rfl (fun _ _ => rfl) (fun x hnL C hR => ?_)
  rw [M_place] at hf
  refine x_iload_n C d_M_place_0 1 rfl ?_
  refine x_i2l C d_M_place_1 ?_
  refine x_lconst C d_M_place_2 0 ?_
  refine x_lconst C d_M_place_3 1 ?_
  refine x_csr C d_M_place_4 wd1088 cm_M_in [.long (Int32.toInt64 p1), .long 0, .long 1] rfl rfl (by decide) (Nat.le_of_ble_eq_true rfl) hf (fun _ h => m_M_in h) (fun v1 hf hb_v1 => ?_)
  refine x_if_eq C d_M_place_7 hf (fun hf => ?_) (fun hf => ?_)
  · refine x_iconst C d_M_place_18 (-1) ?_
    exact x_retR hR d_M_place_19 hf trivial
  refine x_aload_n C d_M_place_10 0 rfl ?_
  refine x_iload_n C d_M_place_11 2 rfl ?_
  refine x_cvr C d_M_place_12 wd1159 cm_M_isWord rfl rfl [.int p2] rfl rfl (by decide) (Nat.le_of_ble_eq_true rfl) hf (fun _ h => m_M_isWord h) (fun v2 hf hb_v2 => ?_)
  refine x_if_ne C d_M_place_15 hf (fun hf => ?_) (fun hf => ?_)
  · refine x_iconst C d_M_place_18 (-1) ?_
    exact x_retR hR d_M_place_19 hf trivial
  refine x_iconst C d_M_place_20 0 ?_
  refine x_istore_n C d_M_place_21 [(3, .int 0), (0, .ref (w.1 0)), (1, .int p1), (2, .int p2)] (by rw [hnL]; decide) rfl ?_
  refine x_iconst C d_M_place_22 0 ?_
  refine x_istore C d_M_place_23 [(4, .int 0), (3, .int 0), (0, .ref (w.1 0)), (1, .int p1), (2, .int p2)] (by rw [hnL]; decide) rfl ?_
  refine x_sub [2, 3, 4, 1, 0] rfl ?_
  refine w_M_place_L25 hnL C hR (fun v4 hf => ?_) F 0 0 hf
  refine x_aload_n C d_M_place_55 0 rfl ?_
  refine x_iload_n C d_M_place_56 1 rfl ?_
  refine x_iload_n C d_M_place_57 2 rfl ?_
  refine x_cvr C d_M_place_58 wd1278 cm_M_isIn rfl rfl [.int p1, .int p2] rfl rfl (by decide) (Nat.le_of_ble_eq_true rfl) hf (fun _ h => m_M_isIn h) (fun v5 hf hb_v5 => ?_)
  refine x_if_eq C d_M_place_61 hf (fun hf => ?_) (fun hf => ?_)
  · refine x_bipush C d_M_place_68 (-4) ?_
    exact x_retR hR d_M_place_70 hf trivial
  refine x_iload_n C d_M_place_64 3 rfl ?_
  refine x_goto C d_M_place_65 ?_
  exact x_retR hR d_M_place_70 hf trivial
set_option maxRecDepth 4000 in
theorem m_M_slowBy {w : Ww} {l0 : Launch} {F : Nat} {S : St} {p1 : Int32} {p2 : Int32} {r : Int32} {S9 : St}  (hf : M_slowBy F S p1 p2 = some (r, S9)) : MI shM w l0 y_M_slowBy b_M_slowBy 3 .int 3 [.ref (w.1 0), .int p1, .int p2] S r S9 bzT := by
  refine MI.of (by decide) (Nat.le_of_ble_eq_true rfl) rfl (fun _ _ => rfl) (fun x hnL C hR => ?_)
  rw [M_slowBy] at hf
  refine x_aload_n C d_M_slowBy_0 0 rfl ?_
  refine x_iload_n C d_M_slowBy_1 1 rfl ?_
  refine x_iload_n C d_M_slowBy_2 2 rfl ?_
  refine x_aload_n C d_M_slowBy_3 0 rfl ?_
  refine x_get C d_M_slowBy_4 f_M_wires wd966 rfl rfl ?_
  refine x_iconst C d_M_slowBy_7 0 ?_
  refine x_iconst C d_M_slowBy_8 0 ?_
  refine x_cvv C d_M_slowBy_9 wd1168 cm_M_moves rfl rfl [.int p1, .int p2, .int (S.1 0 0), .int 0, .int 0] rfl rfl (by decide) (Nat.le_of_ble_eq_true rfl) hf (fun _ h => m_M_moves h) (fun S1 hf => ?_)
  refine x_aload_n C d_M_slowBy_12 0 rfl ?_
  refine x_cvr C d_M_slowBy_13 wd1188 cm_M_slowNow rfl rfl [] rfl rfl (by decide) (Nat.le_of_ble_eq_true rfl) hf (fun _ h => m_M_slowNow h) (fun v2 hf hb_v2 => ?_)
  exact hR _ _ _ _ d_M_slowBy_16.1 hf trivial
set_option maxRecDepth 4000 in
theorem w_M_slowest_L31 {w : Ww} {l0 : Launch} {x : Cx} {F : Nat} {p1 : Int32} {v4 : Int32} {rs : (Int32 × St)} {k6 : St → Int32 → Option (Int32 × St)} (hnL : x.2.2.2.2.2.2.2.2.2.2.2.2 = 6) (C : XC shM w "NeighbourWiresModel" b_M_slowest l0 4 x) (hR : RI shM w b_M_slowest bzT rs x)  (hk6 : ∀ (S7 : St) (v8 : Int32), k6 S7 v8 = some rs → WX shM w x S7 89 [(0, .ref (w.1 0)), (1, .int p1), (2, .int v8), (3, .int v4)] []) : ∀ (n : Nat) (S10 : St) (v11 : Int32) (v12 : Int32), M_slowest_L31 F p1 v4 k6 n S10 v11 v12 = some rs → WX shM w x S10 31 [(0, .ref (w.1 0)), (1, .int p1), (2, .int v11), (3, .int v4), (4, .int v12)] [] := by
  intro n
  induction n with
  | zero => intro S10 v11 v12 hf; cases hf
  | succ n ih =>
    intro S10 v11 v12 hf
    rw [M_slowest_L31] at hf
    refine x_iload C d_M_slowest_31 4 rfl ?_
    refine x_iconst C d_M_slowest_33 1 ?_
    refine x_aload_n C d_M_slowest_34 0 rfl ?_
    refine x_get C d_M_slowest_35 f_M_wires wd966 rfl rfl ?_
    refine x_ishl C d_M_slowest_38 ?_
    refine x_icmp_ge C d_M_slowest_39 hf (fun hf => ?_) (fun hf => ?_)
    · refine x_aload_n C d_M_slowest_42 0 rfl ?_
      refine x_iload_n C d_M_slowest_43 1 rfl ?_
      refine x_iload_n C d_M_slowest_44 3 rfl ?_
      refine x_cvr C d_M_slowest_45 wd1278 cm_M_isIn rfl rfl [.int p1, .int v4] rfl rfl (by decide) (Nat.le_of_ble_eq_true rfl) hf (fun _ h => m_M_isIn h) (fun v13 hf hb_v13 => ?_)
      refine x_if_eq C d_M_slowest_48 hf (fun hf => ?_) (fun hf => ?_)
      · refine x_sub [0, 1, 2, 3] rfl ?_
        exact hk6 S10 v11 hf
      refine x_aload_n C d_M_slowest_51 0 rfl ?_
      refine x_iload_n C d_M_slowest_52 1 rfl ?_
      refine x_iload C d_M_slowest_53 4 rfl ?_
      refine x_cvr C d_M_slowest_55 wd1278 cm_M_isIn rfl rfl [.int p1, .int v12] rfl rfl (by decide) (Nat.le_of_ble_eq_true rfl) hf (fun _ h => m_M_isIn h) (fun v14 hf hb_v14 => ?_)
      refine x_jn (fun J17 => ∀ (S15 : St) (v16 : Int32), J17 S15 v16 = some rs → WX shM w x S15 83 [(0, .ref (w.1 0)), (1, .int p1), (2, .int v16), (3, .int v4), (4, .int v12)] []) hf (fun S15 v16 hf => ?_) (fun J17 hJ17 hf => ?_)
      · refine x_iinc C 1 d_M_slowest_83 4 rfl (by rw [hnL]; decide) hf (fun v18 => [(4, .int v18), (0, .ref (w.1 0)), (1, .int p1), (2, .int v16), (3, .int v4)]) (fun _ => rfl) (fun v18 hf => ?_)
        refine x_goto C d_M_slowest_86 ?_
        refine x_sub [1, 2, 3, 4, 0] rfl ?_
        exact ih S15 v16 v18 hf
      refine x_if_eq C d_M_slowest_58 hf (fun hf => ?_) (fun hf => ?_)
      · exact hJ17 S10 v11 hf
      refine x_aload_n C d_M_slowest_61 0 rfl ?_
      refine x_iload_n C d_M_slowest_62 3 rfl ?_
      refine x_iload C d_M_slowest_63 4 rfl ?_
      refine x_cvi C d_M_slowest_65 wd1294 cm_M_slowBy rfl rfl [.int v4, .int v12] rfl rfl (by decide) (Nat.le_of_ble_eq_true rfl) hf (fun _ _ h => m_M_slowBy h) (fun v19 S20 hf hb_v19 => ?_)
      refine x_istore C d_M_slowest_68 [(5, .int v19), (0, .ref (w.1 0)), (1, .int p1), (2, .int v11), (3, .int v4), (4, .int v12)] (by rw [hnL]; decide) rfl ?_
      refine x_iload C d_M_slowest_70 0 rfl ?_
      refine x_iload_n C d_M_slowest_72 3 rfl ?_
      refine x_jn (fun J22 => ∀ (v21 : Int32), J22 v21 = some rs → WX shM w x S20 82 [(0, .ref (w.1 0)), (1, .int p1), (3, .int v4), (4, .int v12)] [.int v21]) hf (fun v21 hf => ?_) (fun J22 hJ22 hf => ?_)
      · refine x_istore_n C d_M_slowest_82 [(2, .int v21), (0, .ref (w.1 0)), (1, .int p1), (3, .int v4), (4, .int v12)] (by rw [hnL]; decide) rfl ?_
        refine x_sub [1, 2, 0, 3, 4] rfl ?_
        exact hJ17 S20 v21 hf
      refine x_icmp_le C d_M_slowest_73 hf (fun hf => ?_) (fun hf => ?_)
      · refine x_iload C d_M_slowest_76 0 rfl ?_
        refine x_goto C d_M_slowest_78 ?_
        refine x_sub [1, 2, 4, 5] rfl ?_
        exact hJ22 v19 hf
      refine x_iload_n C d_M_slowest_81 3 rfl ?_
      refine x_sub [1, 2, 4, 5] rfl ?_
      exact hJ22 v11 hf
    refine x_sub [0, 1, 2, 3] rfl ?_
    exact hk6 S10 v11 hf
set_option maxRecDepth 4000 in
theorem w_M_slowest_L16 {w : Ww} {l0 : Launch} {x : Cx} {F : Nat} {p1 : Int32} {rs : (Int32 × St)}  (hnL : x.2.2.2.2.2.2.2.2.2.2.2.2 = 6) (C : XC shM w "NeighbourWiresModel" b_M_slowest l0 4 x) (hR : RI shM w b_M_slowest bzT rs x)   : ∀ (n : Nat) (S2 : St) (v3 : Int32) (v4 : Int32), M_slowest_L16 F p1 n S2 v3 v4 = some rs → WX shM w x S2 16 [(0, .ref (w.1 0)), (1, .int p1), (2, .int v3), (3, .int v4)] [] := by
  intro n
  induction n with
  | zero => intro S2 v3 v4 hf; cases hf
  | succ n ih =>
    intro S2 v3 v4 hf
    rw [M_slowest_L16] at hf
    refine x_iload_n C d_M_slowest_16 3 rfl ?_
    refine x_iconst C d_M_slowest_17 1 ?_
    refine x_aload_n C d_M_slowest_18 0 rfl ?_
    refine x_get C d_M_slowest_19 f_M_wires wd966 rfl rfl ?_
    refine x_ishl C d_M_slowest_22 ?_
    refine x_icmp_ge C d_M_slowest_23 hf (fun hf => ?_) (fun hf => ?_)
    · refine x_iload_n C d_M_slowest_26 3 rfl ?_
      refine x_iconst C d_M_slowest_27 1 ?_
      refine x_iadd C d_M_slowest_28 ?_
      refine x_bi hf (fun v5 hf => ?_)
      refine x_istore C d_M_slowest_29 [(4, .int v5), (0, .ref (w.1 0)), (1, .int p1), (2, .int v3), (3, .int v4)] (by rw [hnL]; decide) rfl ?_
      refine x_sub [1, 2, 3, 4, 0] rfl ?_
      refine w_M_slowest_L31 hnL C hR (fun S7 v8 hf => ?_) F S2 v3 v5 hf
      refine x_iinc C 1 d_M_slowest_89 3 rfl (by rw [hnL]; decide) hf (fun v9 => [(3, .int v9), (0, .ref (w.1 0)), (1, .int p1), (2, .int v8)]) (fun _ => rfl) (fun v9 hf => ?_)
      refine x_goto C d_M_slowest_92 ?_
      refine x_sub [1, 2, 3, 0] rfl ?_
      exact ih S7 v8 v9 hf
    refine x_iload_n C d_M_slowest_95 2 rfl ?_
    exact hR _ _ _ _ d_M_slowest_96.1 hf trivial
set_option maxRecDepth 4000 in
theorem m_M_slowest {w : Ww} {l0 : Launch} {F : Nat} {S : St} {p1 : Int32} {r : Int32} {S9 : St}  (hf : M_slowest F S p1 = some (r, S9)) : MI shM w l0 y_M_slowest b_M_slowest 6 .int 4 [.ref (w.1 0), .int p1] S r S9 bzT := by
  refine MI.of (by decide) (Nat.le_of_ble_eq_true rfl) rfl (fun _ _ => rfl) (fun x hnL C hR => ?_)
  rw [M_slowest] at hf
  refine x_iload_n C d_M_slowest_0 1 rfl ?_
  refine x_i2l C d_M_slowest_1 ?_
  refine x_lconst C d_M_slowest_2 0 ?_
  refine x_lconst C d_M_slowest_3 1 ?_
  refine x_csr C d_M_slowest_4 wd1088 cm_M_in [.long (Int32.toInt64 p1), .long 0, .long 1] rfl rfl (by decide) (Nat.le_of_ble_eq_true rfl) hf (fun _ h => m_M_in h) (fun v1 hf hb_v1 => ?_)
  refine x_if_ne C d_M_slowest_7 hf (fun hf => ?_) (fun hf => ?_)
  · refine x_iconst C d_M_slowest_10 (-1) ?_
    exact hR _ _ _ _ d_M_slowest_11.1 hf trivial
  refine x_iconst C d_M_slowest_12 0 ?_
  refine x_istore_n C d_M_slowest_13 [(2, .int 0), (0, .ref (w.1 0)), (1, .int p1)] (by rw [hnL]; decide) rfl ?_
  refine x_iconst C d_M_slowest_14 0 ?_
  refine x_istore_n C d_M_slowest_15 [(3, .int 0), (2, .int 0), (0, .ref (w.1 0)), (1, .int p1)] (by rw [hnL]; decide) rfl ?_
  refine x_sub [2, 3, 1, 0] rfl ?_
  exact w_M_slowest_L16 hnL C hR  F S 0 0 hf
