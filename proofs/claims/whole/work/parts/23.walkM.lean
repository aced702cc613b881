set_option maxRecDepth 4000 in
theorem w_M_greatest_L130 {w : Ww} {l0 : Launch} {x : Cx} {F : Nat} {p2 : Int32} {v3 : Int32} {S5 : St} {v9 : Int32} {v10 : Int32} {rs : (Int32 × St)} {k11 : Int32 → Option (Int32 × St)} (hnL : x.2.2.2.2.2.2.2.2.2.2.2.2 = 9) (C : XC shM w "NeighbourWiresModel" b_M_greatest l0 4 x) (hR : RI shM w b_M_greatest bzT rs x)  (hk11 : ∀ (v12 : Int32), k11 v12 = some rs → WX shM w x S5 179 [(0, .ref (w.1 0)), (2, .int p2), (3, .int v3), (4, .int v9), (5, .int v10), (6, .int v12)] []) : ∀ (n : Nat) (v23 : Int32) (v24 : Int32), M_greatest_L130 F p2 v3 S5 v9 v10 k11 n v23 v24 = some rs → WX shM w x S5 130 [(0, .ref (w.1 0)), (2, .int p2), (3, .int v3), (4, .int v9), (5, .int v10), (6, .int v23), (7, .int v24)] [] := by
  intro n
  induction n with
  | zero => intro v23 v24 hf; cases hf
  | succ n ih =>
    intro v23 v24 hf
    rw [M_greatest_L130] at hf
    refine x_iload C d_M_greatest_130 6 rfl ?_
    refine x_iload_n C d_M_greatest_132 2 rfl ?_
    refine x_icmp_ge C d_M_greatest_133 hf (fun hf => ?_) (fun hf => ?_)
    · refine x_iload C d_M_greatest_136 5 rfl ?_
      refine x_if_eq C d_M_greatest_138 hf (fun hf => ?_) (fun hf => ?_)
      · refine x_sub [0, 1, 2, 3, 4, 5] rfl ?_
        exact hk11 v23 hf
      refine x_iload C d_M_greatest_141 4 rfl ?_
      refine x_iload C d_M_greatest_143 6 rfl ?_
      refine x_ishr C d_M_greatest_145 ?_
      refine x_iconst C d_M_greatest_146 1 ?_
      refine x_iand C d_M_greatest_147 ?_
      refine x_jn (fun J26 => ∀ (v25 : Int32), J26 v25 = some rs → WX shM w x S5 171 [(0, .ref (w.1 0)), (2, .int p2), (3, .int v3), (4, .int v9), (5, .int v10), (7, .int v24)] [.int v25]) hf (fun v25 hf => ?_) (fun J26 hJ26 hf => ?_)
      · refine x_istore C d_M_greatest_171 [(6, .int v25), (0, .ref (w.1 0)), (2, .int p2), (3, .int v3), (4, .int v9), (5, .int v10), (7, .int v24)] (by rw [hnL]; decide) rfl ?_
        refine x_iinc C 1 d_M_greatest_173 6 rfl (by rw [hnL]; decide) hf (fun v27 => [(7, .int v27), (6, .int v25), (0, .ref (w.1 0)), (2, .int p2), (3, .int v3), (4, .int v9), (5, .int v10)]) (fun _ => rfl) (fun v27 hf => ?_)
        refine x_goto C d_M_greatest_176 ?_
        refine x_sub [2, 3, 4, 5, 6, 1, 0] rfl ?_
        exact ih v25 v27 hf
      refine x_jn (fun J28 => J28  = some rs → WX shM w x S5 166 [(0, .ref (w.1 0)), (2, .int p2), (3, .int v3), (4, .int v9), (5, .int v10), (7, .int v24)] []) hf (fun hf => ?_) (fun J28 hJ28 hf => ?_)
      · refine x_iconst C d_M_greatest_166 1 ?_
        refine x_goto C d_M_greatest_167 ?_
        exact hJ26 1 hf
      refine x_if_eq C d_M_greatest_148 hf (fun hf => ?_) (fun hf => ?_)
      · refine x_sub [0, 1, 2, 3, 4, 6] rfl ?_
        exact hJ28  hf
      refine x_iload C d_M_greatest_151 4 rfl ?_
      refine x_aload_n C d_M_greatest_153 0 rfl ?_
      refine x_getr C d_M_greatest_154 f_M_goesWith wd995 rfl rfl ?_
      refine x_iload C d_M_greatest_157 6 rfl ?_
      refine x_iald C d_M_greatest_159 rfl hf (fun hf => ?_)
      refine x_iconst C d_M_greatest_160 (-1) ?_
      refine x_ixor C d_M_greatest_161 ?_
      refine x_iand C d_M_greatest_162 ?_
      refine x_if_ne C d_M_greatest_163 hf (fun hf => ?_) (fun hf => ?_)
      · refine x_sub [0, 1, 2, 3, 4, 6] rfl ?_
        exact hJ28  hf
      refine x_iconst C d_M_greatest_170 0 ?_
      refine x_sub [0, 1, 2, 3, 4, 6] rfl ?_
      exact hJ26 0 hf
    refine x_sub [0, 1, 2, 3, 4, 5] rfl ?_
    exact hk11 v23 hf
set_option maxRecDepth 4000 in
theorem w_M_greatest_L116 {w : Ww} {l0 : Launch} {x : Cx} {F : Nat} {p2 : Int32} {v3 : Int32} {S5 : St} {rs : (Int32 × St)} {k6 : Int32 → Option (Int32 × St)} (hnL : x.2.2.2.2.2.2.2.2.2.2.2.2 = 9) (C : XC shM w "NeighbourWiresModel" b_M_greatest l0 4 x) (hR : RI shM w b_M_greatest bzT rs x)  (hk6 : ∀ (v7 : Int32), k6 v7 = some rs → WX shM w x S5 245 [(2, .int p2), (4, .int v7)] []) : ∀ (n : Nat) (v9 : Int32) (v10 : Int32), M_greatest_L116 F p2 v3 S5 k6 n v9 v10 = some rs → WX shM w x S5 116 [(0, .ref (w.1 0)), (2, .int p2), (3, .int v3), (4, .int v9), (5, .int v10)] [] := by
  intro n
  induction n with
  | zero => intro v9 v10 hf; cases hf
  | succ n ih =>
    intro v9 v10 hf
    rw [M_greatest_L116] at hf
    refine x_iload C d_M_greatest_116 4 rfl ?_
    refine x_iconst C d_M_greatest_118 1 ?_
    refine x_iload_n C d_M_greatest_119 2 rfl ?_
    refine x_ishl C d_M_greatest_120 ?_
    refine x_icmp_ge C d_M_greatest_121 hf (fun hf => ?_) (fun hf => ?_)
    · refine x_iconst C d_M_greatest_124 1 ?_
      refine x_istore C d_M_greatest_125 [(6, .int 1), (0, .ref (w.1 0)), (2, .int p2), (3, .int v3), (4, .int v9), (5, .int v10)] (by rw [hnL]; decide) rfl ?_
      refine x_iconst C d_M_greatest_127 0 ?_
      refine x_istore C d_M_greatest_128 [(7, .int 0), (6, .int 1), (0, .ref (w.1 0)), (2, .int p2), (3, .int v3), (4, .int v9), (5, .int v10)] (by rw [hnL]; decide) rfl ?_
      refine x_sub [2, 3, 4, 5, 6, 1, 0] rfl ?_
      refine w_M_greatest_L130 hnL C hR (fun v12 hf => ?_) F 1 0 hf
      refine x_iload C d_M_greatest_179 5 rfl ?_
      refine x_jn (fun J14 => ∀ (v13 : Int32), J14 v13 = some rs → WX shM w x S5 199 [(0, .ref (w.1 0)), (2, .int p2), (3, .int v3), (4, .int v9), (5, .int v10)] [.int v13]) hf (fun v13 hf => ?_) (fun J14 hJ14 hf => ?_)
      · refine x_istore C d_M_greatest_199 [(7, .int v13), (0, .ref (w.1 0)), (2, .int p2), (3, .int v3), (4, .int v9), (5, .int v10)] (by rw [hnL]; decide) rfl ?_
        refine x_iload C d_M_greatest_201 5 rfl ?_
        refine x_iload C d_M_greatest_203 4 rfl ?_
        refine x_ixor C d_M_greatest_205 ?_
        refine x_bi hf (fun v15 hf => ?_)
        refine x_istore C d_M_greatest_206 [(8, .int v15), (7, .int v13), (0, .ref (w.1 0)), (2, .int p2), (3, .int v3), (4, .int v9), (5, .int v10)] (by rw [hnL]; decide) rfl ?_
        refine x_iload C d_M_greatest_208 1 rfl ?_
        refine x_jn (fun J17 => ∀ (v16 : Int32), J17 v16 = some rs → WX shM w x S5 237 [(0, .ref (w.1 0)), (2, .int p2), (3, .int v3), (5, .int v10)] [.int v16]) hf (fun v16 hf => ?_) (fun J17 hJ17 hf => ?_)
        · refine x_istore C d_M_greatest_237 [(4, .int v16), (0, .ref (w.1 0)), (2, .int p2), (3, .int v3), (5, .int v10)] (by rw [hnL]; decide) rfl ?_
          refine x_iinc C 1 d_M_greatest_239 4 rfl (by rw [hnL]; decide) hf (fun v18 => [(5, .int v18), (4, .int v16), (0, .ref (w.1 0)), (2, .int p2), (3, .int v3)]) (fun _ => rfl) (fun v18 hf => ?_)
          refine x_goto C d_M_greatest_242 ?_
          refine x_sub [2, 3, 4, 1, 0] rfl ?_
          exact ih v16 v18 hf
        refine x_jn (fun J19 => J19  = some rs → WX shM w x S5 230 [(0, .ref (w.1 0)), (2, .int p2), (3, .int v3), (5, .int v10)] []) hf (fun hf => ?_) (fun J19 hJ19 hf => ?_)
        · refine x_iload C d_M_greatest_230 3 rfl ?_
          refine x_goto C d_M_greatest_232 ?_
          exact hJ17 v10 hf
        refine x_if_gt C d_M_greatest_210 hf (fun hf => ?_) (fun hf => ?_)
        · refine x_sub [2, 3, 4, 6] rfl ?_
          exact hJ19  hf
        refine x_iload C d_M_greatest_213 1 rfl ?_
        refine x_jn (fun J20 => J20  = some rs → WX shM w x S5 235 [(0, .ref (w.1 0)), (2, .int p2), (3, .int v3), (4, .int v9), (5, .int v10)] []) hf (fun hf => ?_) (fun J20 hJ20 hf => ?_)
        · refine x_iload C d_M_greatest_235 3 rfl ?_
          refine x_sub [0, 1, 2, 4] rfl ?_
          exact hJ17 v9 hf
        refine x_if_ne C d_M_greatest_215 hf (fun hf => ?_) (fun hf => ?_)
        · refine x_iload C d_M_greatest_218 6 rfl ?_
          refine x_iload C d_M_greatest_220 0 rfl ?_
          refine x_iand C d_M_greatest_222 ?_
          refine x_iload C d_M_greatest_223 0 rfl ?_
          refine x_ineg C d_M_greatest_225 ?_
          refine x_iand C d_M_greatest_226 ?_
          refine x_if_eq C d_M_greatest_227 hf (fun hf => ?_) (fun hf => ?_)
          · refine x_sub [2, 3, 4, 5, 6] rfl ?_
            exact hJ20  hf
          refine x_sub [2, 3, 4, 6] rfl ?_
          exact hJ19  hf
        refine x_sub [2, 3, 4, 5, 6] rfl ?_
        exact hJ20  hf
      refine x_if_eq C d_M_greatest_181 hf (fun hf => ?_) (fun hf => ?_)
      · refine x_iconst C d_M_greatest_198 (-1) ?_
        refine x_sub [0, 1, 2, 3, 4] rfl ?_
        exact hJ14 (-1) hf
      refine x_iload C d_M_greatest_184 4 rfl ?_
      refine x_csr C d_M_greatest_186 wd1247 cm_M_countOf [.int v10] rfl rfl (by decide) (Nat.le_of_ble_eq_true rfl) hf (fun _ h => m_M_countOf h) (fun v21 hf hb_v21 => ?_)
      refine x_iload C d_M_greatest_189 3 rfl ?_
      refine x_csr C d_M_greatest_191 wd1247 cm_M_countOf [.int v9] rfl rfl (by decide) (Nat.le_of_ble_eq_true rfl) hf (fun _ h => m_M_countOf h) (fun v22 hf hb_v22 => ?_)
      refine x_isub C d_M_greatest_194 ?_
      refine x_goto C d_M_greatest_195 ?_
      refine x_sub [0, 1, 2, 3, 4] rfl ?_
      exact hJ14 (v21 - v22) hf
    refine x_sub [1, 3] rfl ?_
    exact hk6 v9 hf
set_option maxRecDepth 4000 in
theorem w_M_greatest_L62 {w : Ww} {l0 : Launch} {x : Cx} {F : Nat} {p1 : Int32} {p2 : Int32} {v3 : Int32} {v30 : Int32} {rs : (Int32 × St)} {k32 : St → Option (Int32 × St)} (hnL : x.2.2.2.2.2.2.2.2.2.2.2.2 = 9) (C : XC shM w "NeighbourWiresModel" b_M_greatest l0 4 x) (hR : RI shM w b_M_greatest bzT rs x)  (hk32 : ∀ (S33 : St), k32 S33 = some rs → WX shM w x S33 104 [(0, .ref (w.1 0)), (1, .int p1), (2, .int p2), (3, .int v3), (4, .int v30)] []) : ∀ (n : Nat) (S35 : St) (v36 : Int32), M_greatest_L62 F p1 p2 v3 v30 k32 n S35 v36 = some rs → WX shM w x S35 62 [(0, .ref (w.1 0)), (1, .int p1), (2, .int p2), (3, .int v3), (4, .int v30), (5, .int v36)] [] := by
  intro n
  induction n with
  | zero => intro S35 v36 hf; cases hf
  | succ n ih =>
    intro S35 v36 hf
    rw [M_greatest_L62] at hf
    refine x_iload C d_M_greatest_62 5 rfl ?_
    refine x_iload_n C d_M_greatest_64 3 rfl ?_
    refine x_icmp_ge C d_M_greatest_65 hf (fun hf => ?_) (fun hf => ?_)
    · refine x_aload_n C d_M_greatest_68 0 rfl ?_
      refine x_getr C d_M_greatest_69 f_M_goesWith wd995 rfl rfl ?_
      refine x_iload C d_M_greatest_72 4 rfl ?_
      refine x_dup2 C d_M_greatest_74 rfl rfl ?_
      refine x_iald C d_M_greatest_75 rfl hf (fun hf => ?_)
      refine x_aload_n C d_M_greatest_76 0 rfl ?_
      refine x_iload C d_M_greatest_77 4 rfl ?_
      refine x_iload C d_M_greatest_79 5 rfl ?_
      refine x_cvi C d_M_greatest_81 wd1294 cm_M_slowBy rfl rfl [.int v30, .int v36] rfl rfl (by decide) (Nat.le_of_ble_eq_true rfl) hf (fun _ _ h => m_M_slowBy h) (fun v37 S38 hf hb_v37 => ?_)
      refine x_iload_n C d_M_greatest_84 1 rfl ?_
      refine x_jn (fun J40 => ∀ (v39 : Int32), J40 v39 = some rs → WX shM w x S38 96 [(0, .ref (w.1 0)), (1, .int p1), (2, .int p2), (3, .int v3), (4, .int v30), (5, .int v36)] [.int v39, .int (S35.1 11 (Int32.toNatClampNeg v30)), .int v30, .ref (w.1 11)]) hf (fun v39 hf => ?_) (fun J40 hJ40 hf => ?_)
      · refine x_ior C d_M_greatest_96 ?_
        refine x_iast C d_M_greatest_97 rfl hf (fun S41 hf => ?_)
        refine x_iinc C 1 d_M_greatest_98 5 rfl (by rw [hnL]; decide) hf (fun v42 => [(5, .int v42), (0, .ref (w.1 0)), (1, .int p1), (2, .int p2), (3, .int v3), (4, .int v30)]) (fun _ => rfl) (fun v42 hf => ?_)
        refine x_goto C d_M_greatest_101 ?_
        refine x_sub [1, 2, 3, 4, 5, 0] rfl ?_
        exact ih S41 v42 hf
      refine x_icmp_gt C d_M_greatest_85 hf (fun hf => ?_) (fun hf => ?_)
      · refine x_iconst C d_M_greatest_95 0 ?_
        exact hJ40 0 hf
      refine x_iconst C d_M_greatest_88 1 ?_
      refine x_iload C d_M_greatest_89 5 rfl ?_
      refine x_ishl C d_M_greatest_91 ?_
      refine x_goto C d_M_greatest_92 ?_
      exact hJ40 (jshl 1 v36) hf
    refine x_sub [0, 1, 2, 3, 4] rfl ?_
    exact hk32 S35 hf
set_option maxRecDepth 4000 in
theorem w_M_greatest_L45 {w : Ww} {l0 : Launch} {x : Cx} {F : Nat} {p1 : Int32} {p2 : Int32} {v3 : Int32} {rs : (Int32 × St)} {k4 : St → Option (Int32 × St)} (hnL : x.2.2.2.2.2.2.2.2.2.2.2.2 = 9) (C : XC shM w "NeighbourWiresModel" b_M_greatest l0 4 x) (hR : RI shM w b_M_greatest bzT rs x)  (hk4 : ∀ (S5 : St), k4 S5 = some rs → WX shM w x S5 110 [(0, .ref (w.1 0)), (2, .int p2), (3, .int v3)] []) : ∀ (n : Nat) (S29 : St) (v30 : Int32), M_greatest_L45 F p1 p2 v3 k4 n S29 v30 = some rs → WX shM w x S29 45 [(0, .ref (w.1 0)), (1, .int p1), (2, .int p2), (3, .int v3), (4, .int v30)] [] := by
  intro n
  induction n with
  | zero => intro S29 v30 hf; cases hf
  | succ n ih =>
    intro S29 v30 hf
    rw [M_greatest_L45] at hf
    refine x_iload C d_M_greatest_45 4 rfl ?_
    refine x_iload_n C d_M_greatest_47 3 rfl ?_
    refine x_icmp_ge C d_M_greatest_48 hf (fun hf => ?_) (fun hf => ?_)
    · refine x_aload_n C d_M_greatest_51 0 rfl ?_
      refine x_getr C d_M_greatest_52 f_M_goesWith wd995 rfl rfl ?_
      refine x_iload C d_M_greatest_55 4 rfl ?_
      refine x_iconst C d_M_greatest_57 0 ?_
      refine x_iast C d_M_greatest_58 rfl hf (fun S31 hf => ?_)
      refine x_iconst C d_M_greatest_59 0 ?_
      refine x_istore C d_M_greatest_60 [(5, .int 0), (0, .ref (w.1 0)), (1, .int p1), (2, .int p2), (3, .int v3), (4, .int v30)] (by rw [hnL]; decide) rfl ?_
      refine x_sub [1, 2, 3, 4, 5, 0] rfl ?_
      refine w_M_greatest_L62 hnL C hR (fun S33 hf => ?_) F S31 0 hf
      refine x_iinc C 1 d_M_greatest_104 4 rfl (by rw [hnL]; decide) hf (fun v34 => [(4, .int v34), (0, .ref (w.1 0)), (1, .int p1), (2, .int p2), (3, .int v3)]) (fun _ => rfl) (fun v34 hf => ?_)
      refine x_goto C d_M_greatest_107 ?_
      refine x_sub [1, 2, 3, 4, 0] rfl ?_
      exact ih S33 v34 hf
    refine x_sub [0, 2, 3] rfl ?_
    exact hk4 S29 hf
set_option maxRecDepth 4000 in
theorem m_M_greatest {w : Ww} {l0 : Launch} {F : Nat} {S : St} {p1 : Int32} {p2 : Int32} {r : Int32} {S9 : St}  (hf : M_greatest F S p1 p2 = some (r, S9)) : MI shM w l0 y_M_greatest b_M_greatest 9 .int 4 [.ref (w.1 0), .int p1, .int p2] S r S9 bzT := by
  refine MI.of (by decide) (Nat.le_of_ble_eq_true rfl) rfl (fun _ _ => rfl) (fun x hnL C hR => ?_)
  rw [M_greatest] at hf
  refine x_iload_n C d_M_greatest_0 1 rfl ?_
  refine x_i2l C d_M_greatest_1 ?_
  refine x_lconst C d_M_greatest_2 0 ?_
  refine x_ldc2 C d_M_greatest_3 wd1223 ?_
  refine x_csr C d_M_greatest_6 wd1088 cm_M_in [.long (Int32.toInt64 p1), .long 0, .long 4] rfl rfl (by decide) (Nat.le_of_ble_eq_true rfl) hf (fun _ h => m_M_in h) (fun v1 hf hb_v1 => ?_)
  refine x_if_eq C d_M_greatest_9 hf (fun hf => ?_) (fun hf => ?_)
  · refine x_iconst C d_M_greatest_22 (-1) ?_
    exact hR _ _ _ _ d_M_greatest_23.1 hf trivial
  refine x_iload_n C d_M_greatest_12 2 rfl ?_
  refine x_i2l C d_M_greatest_13 ?_
  refine x_lconst C d_M_greatest_14 0 ?_
  refine x_lconst C d_M_greatest_15 1 ?_
  refine x_csr C d_M_greatest_16 wd1088 cm_M_in [.long (Int32.toInt64 p2), .long 0, .long 1] rfl rfl (by decide) (Nat.le_of_ble_eq_true rfl) hf (fun _ h => m_M_in h) (fun v2 hf hb_v2 => ?_)
  refine x_if_ne C d_M_greatest_19 hf (fun hf => ?_) (fun hf => ?_)
  · refine x_iconst C d_M_greatest_22 (-1) ?_
    exact hR _ _ _ _ d_M_greatest_23.1 hf trivial
  refine x_aload_n C d_M_greatest_24 0 rfl ?_
  refine x_get C d_M_greatest_25 f_M_wires wd966 rfl rfl ?_
  refine x_iconst C d_M_greatest_28 4 ?_
  refine x_icmp_le C d_M_greatest_29 hf (fun hf => ?_) (fun hf => ?_)
  · refine x_bipush C d_M_greatest_32 (-2) ?_
    exact hR _ _ _ _ d_M_greatest_34.1 hf trivial
  refine x_iconst C d_M_greatest_35 1 ?_
  refine x_aload_n C d_M_greatest_36 0 rfl ?_
  refine x_get C d_M_greatest_37 f_M_wires wd966 rfl rfl ?_
  refine x_ishl C d_M_greatest_40 ?_
  refine x_bi hf (fun v3 hf => ?_)
  refine x_istore_n C d_M_greatest_41 [(3, .int v3), (0, .ref (w.1 0)), (1, .int p1), (2, .int p2)] (by rw [hnL]; decide) rfl ?_
  refine x_iconst C d_M_greatest_42 0 ?_
  refine x_istore C d_M_greatest_43 [(4, .int 0), (3, .int v3), (0, .ref (w.1 0)), (1, .int p1), (2, .int p2)] (by rw [hnL]; decide) rfl ?_
  refine x_sub [2, 3, 4, 1, 0] rfl ?_
  refine w_M_greatest_L45 hnL C hR (fun S5 hf => ?_) F S 0 hf
  refine x_iconst C d_M_greatest_110 0 ?_
  refine x_istore C d_M_greatest_111 [(4, .int 0), (0, .ref (w.1 0)), (2, .int p2), (3, .int v3)] (by rw [hnL]; decide) rfl ?_
  refine x_iconst C d_M_greatest_113 1 ?_
  refine x_istore C d_M_greatest_114 [(5, .int 1), (4, .int 0), (0, .ref (w.1 0)), (2, .int p2), (3, .int v3)] (by rw [hnL]; decide) rfl ?_
  refine x_sub [2, 3, 4, 1, 0] rfl ?_
  refine w_M_greatest_L116 hnL C hR (fun v7 hf => ?_) F 0 1 hf
  refine x_iload_n C d_M_greatest_245 0 rfl ?_
  refine x_if_ne C d_M_greatest_246 hf (fun hf => ?_) (fun hf => ?_)
  · refine x_iload C d_M_greatest_249 1 rfl ?_
    refine x_csr C d_M_greatest_251 wd1247 cm_M_countOf [.int v7] rfl rfl (by decide) (Nat.le_of_ble_eq_true rfl) hf (fun _ h => m_M_countOf h) (fun v8 hf hb_v8 => ?_)
    refine x_goto C d_M_greatest_254 ?_
    exact hR _ _ _ _ d_M_greatest_259.1 hf trivial
  refine x_iload C d_M_greatest_257 1 rfl ?_
  exact hR _ _ _ _ d_M_greatest_259.1 hf trivial
set_option maxRecDepth 4000 in
theorem w_M_findSlows_L34 {w : Ww} {l0 : Launch} {x : Cx} {F : Nat} {v3 : Int32} {rs : St} {k4 : St → Option St} (hnL : x.2.2.2.2.2.2.2.2.2.2.2.2 = 3) (C : XC shM w "NeighbourWiresModel" b_M_findSlows l0 4 x) (hR : RV shM w b_M_findSlows rs x)  (hk4 : ∀ (S5 : St), k4 S5 = some rs → WX shM w x S5 68 [(0, .ref (w.1 0)), (1, .int v3)] []) : ∀ (n : Nat) (S7 : St) (v8 : Int32), M_findSlows_L34 F v3 k4 n S7 v8 = some rs → WX shM w x S7 34 [(0, .ref (w.1 0)), (1, .int v3), (2, .int v8)] [] := by
  intro n
  induction n with
  | zero => intro S7 v8 hf; cases hf
  | succ n ih =>
    intro S7 v8 hf
    rw [M_findSlows_L34] at hf
    refine x_iload_n C d_M_findSlows_34 2 rfl ?_
    refine x_iconst C d_M_findSlows_35 1 ?_
    refine x_aload_n C d_M_findSlows_36 0 rfl ?_
    refine x_get C d_M_findSlows_37 f_M_wires wd966 rfl rfl ?_
    refine x_ishl C d_M_findSlows_40 ?_
    refine x_icmp_ge C d_M_findSlows_41 hf (fun hf => ?_) (fun hf => ?_)
    · refine x_aload_n C d_M_findSlows_44 0 rfl ?_
      refine x_getr C d_M_findSlows_45 f_M_slows wd998 rfl rfl ?_
      refine x_sipush C d_M_findSlows_48 256 ?_
      refine x_iload_n C d_M_findSlows_51 1 rfl ?_
      refine x_imul C d_M_findSlows_52 ?_
      refine x_iload_n C d_M_findSlows_53 2 rfl ?_
      refine x_iadd C d_M_findSlows_54 ?_
      refine x_aload_n C d_M_findSlows_55 0 rfl ?_
      refine x_iload_n C d_M_findSlows_56 1 rfl ?_
      refine x_iload_n C d_M_findSlows_57 2 rfl ?_
      refine x_cvi C d_M_findSlows_58 wd1294 cm_M_slowBy rfl rfl [.int v3, .int v8] rfl rfl (by decide) (Nat.le_of_ble_eq_true rfl) hf (fun _ _ h => m_M_slowBy h) (fun v9 S10 hf hb_v9 => ?_)
      refine x_iast C d_M_findSlows_61 rfl hf (fun S11 hf => ?_)
      refine x_iinc C 1 d_M_findSlows_62 2 rfl (by rw [hnL]; decide) hf (fun v12 => [(2, .int v12), (0, .ref (w.1 0)), (1, .int v3)]) (fun _ => rfl) (fun v12 hf => ?_)
      refine x_goto C d_M_findSlows_65 ?_
      refine x_sub [1, 2, 0] rfl ?_
      exact ih S11 v12 hf
    refine x_sub [0, 1] rfl ?_
    exact hk4 S7 hf
set_option maxRecDepth 4000 in
theorem w_M_findSlows_L22 {w : Ww} {l0 : Launch} {x : Cx} {F : Nat}  {rs : St}  (hnL : x.2.2.2.2.2.2.2.2.2.2.2.2 = 3) (C : XC shM w "NeighbourWiresModel" b_M_findSlows l0 4 x) (hR : RV shM w b_M_findSlows rs x)   : ∀ (n : Nat) (S2 : St) (v3 : Int32), M_findSlows_L22 F n S2 v3 = some rs → WX shM w x S2 22 [(0, .ref (w.1 0)), (1, .int v3)] [] := by
  intro n
  induction n with
  | zero => intro S2 v3 hf; cases hf
  | succ n ih =>
    intro S2 v3 hf
    rw [M_findSlows_L22] at hf
    refine x_iload_n C d_M_findSlows_22 1 rfl ?_
    refine x_iconst C d_M_findSlows_23 1 ?_
    refine x_aload_n C d_M_findSlows_24 0 rfl ?_
    refine x_get C d_M_findSlows_25 f_M_wires wd966 rfl rfl ?_
    refine x_ishl C d_M_findSlows_28 ?_
    refine x_icmp_ge C d_M_findSlows_29 hf (fun hf => ?_) (fun hf => ?_)
    · refine x_iconst C d_M_findSlows_32 0 ?_
      refine x_istore_n C d_M_findSlows_33 [(2, .int 0), (0, .ref (w.1 0)), (1, .int v3)] (by rw [hnL]; decide) rfl ?_
      refine x_sub [1, 2, 0] rfl ?_
      refine w_M_findSlows_L34 hnL C hR (fun S5 hf => ?_) F S2 0 hf
      refine x_iinc C 1 d_M_findSlows_68 1 rfl (by rw [hnL]; decide) hf (fun v6 => [(1, .int v6), (0, .ref (w.1 0))]) (fun _ => rfl) (fun v6 hf => ?_)
      refine x_goto C d_M_findSlows_71 ?_
      refine x_sub [1, 0] rfl ?_
      exact ih S5 v6 hf
    exact hR _ _ _ d_M_findSlows_74.1 hf
set_option maxRecDepth 4000 in
theorem m_M_findSlows {w : Ww} {l0 : Launch} {F : Nat} {S : St} {rs : St}  (hf : M_findSlows F S = some rs) : MV shM w l0 y_M_findSlows b_M_findSlows 3 4 [.ref (w.1 0)] S rs := by
  refine MV.of (by decide) (Nat.le_of_ble_eq_true rfl) rfl (fun x hnL C hR => ?_)
  rw [M_findSlows] at hf
  refine x_aload_n C d_M_findSlows_0 0 rfl ?_
  refine x_get C d_M_findSlows_1 f_M_slowFor wd997 rfl rfl ?_
  refine x_aload_n C d_M_findSlows_4 0 rfl ?_
  refine x_get C d_M_findSlows_5 f_M_wires wd966 rfl rfl ?_
  refine x_icmp_ne C d_M_findSlows_8 hf (fun hf => ?_) (fun hf => ?_)
  · exact hR _ _ _ d_M_findSlows_11.1 hf
  refine x_aload_n C d_M_findSlows_12 0 rfl ?_
  refine x_aload_n C d_M_findSlows_13 0 rfl ?_
  refine x_get C d_M_findSlows_14 f_M_wires wd966 rfl rfl ?_
  refine x_put C d_M_findSlows_17 f_M_slowFor wd997 rfl rfl hf (fun S1 hf => ?_)
  refine x_iconst C d_M_findSlows_20 0 ?_
  refine x_istore_n C d_M_findSlows_21 [(1, .int 0), (0, .ref (w.1 0))] (by rw [hnL]; decide) rfl ?_
  refine x_sub [1, 0] rfl ?_
  exact w_M_findSlows_L22 hnL C hR  F S1 0 hf
set_option maxRecDepth 4000 in
theorem w_M_waysFrom_L5 {w : Ww} {l0 : Launch} {x : Cx} {F : Nat} {p1 : Int32} {p2 : Int32} {S : St} {rs : Int32}  (hnL : x.2.2.2.2.2.2.2.2.2.2.2.2 = 5) (C : XC shM w "NeighbourWiresModel" b_M_waysFrom l0 0 x) (hR : RI shM w b_M_waysFrom bzT (rs, S) x)   : ∀ (n : Nat) (v1 : Int32) (v2 : Int32), M_waysFrom_L5 F p1 p2 S n v1 v2 = some rs → WX shM w x S 5 [(0, .ref (w.1 0)), (1, .int p1), (2, .int p2), (3, .int v1), (4, .int v2)] [] := by
  intro n
  induction n with
  | zero => intro v1 v2 hf; cases hf
  | succ n ih =>
    intro v1 v2 hf
    rw [M_waysFrom_L5] at hf
    refine x_iload C d_M_waysFrom_5 4 rfl ?_
    refine x_iconst C d_M_waysFrom_7 1 ?_
    refine x_aload_n C d_M_waysFrom_8 0 rfl ?_
    refine x_get C d_M_waysFrom_9 f_M_wires wd966 rfl rfl ?_
    refine x_ishl C d_M_waysFrom_12 ?_
    refine x_icmp_ge C d_M_waysFrom_13 hf (fun hf => ?_) (fun hf => ?_)
    · refine x_iload_n C d_M_waysFrom_16 3 rfl ?_
      refine x_aload_n C d_M_waysFrom_17 0 rfl ?_
      refine x_getr C d_M_waysFrom_18 f_M_isKept wd996 rfl rfl ?_
      refine x_iload C d_M_waysFrom_21 4 rfl ?_
      refine x_zald C d_M_waysFrom_23 rfl hf (fun hf => ?_)
      refine x_jn (fun J4 => ∀ (v3 : Int32), J4 v3 = some rs → WX shM w x S 49 [(0, .ref (w.1 0)), (1, .int p1), (2, .int p2), (4, .int v2)] [.int v3, .int v1]) hf (fun v3 hf => ?_) (fun J4 hJ4 hf => ?_)
      · refine x_iadd C d_M_waysFrom_49 ?_
        refine x_bi hf (fun v5 hf => ?_)
        refine x_istore_n C d_M_waysFrom_50 [(3, .int v5), (0, .ref (w.1 0)), (1, .int p1), (2, .int p2), (4, .int v2)] (by rw [hnL]; decide) rfl ?_
        refine x_iinc C 1 d_M_waysFrom_51 4 rfl (by rw [hnL]; decide) hf (fun v6 => [(4, .int v6), (3, .int v5), (0, .ref (w.1 0)), (1, .int p1), (2, .int p2)]) (fun _ => rfl) (fun v6 hf => ?_)
        refine x_goto C d_M_waysFrom_54 ?_
        refine x_sub [2, 3, 4, 1, 0] rfl ?_
        exact ih v5 v6 hf
      refine x_jn (fun J7 => J7  = some rs → WX shM w x S 48 [(0, .ref (w.1 0)), (1, .int p1), (2, .int p2), (4, .int v2)] [.int v1]) hf (fun hf => ?_) (fun J7 hJ7 hf => ?_)
      · refine x_iconst C d_M_waysFrom_48 0 ?_
        exact hJ4 0 hf
      refine x_if_eq C d_M_waysFrom_24 hf (fun hf => ?_) (fun hf => ?_)
      · refine x_sub [0, 1, 2, 4] rfl ?_
        exact hJ7  hf
      refine x_aload_n C d_M_waysFrom_27 0 rfl ?_
      refine x_getr C d_M_waysFrom_28 f_M_slows wd998 rfl rfl ?_
      refine x_sipush C d_M_waysFrom_31 256 ?_
      refine x_iload_n C d_M_waysFrom_34 2 rfl ?_
      refine x_imul C d_M_waysFrom_35 ?_
      refine x_iload C d_M_waysFrom_36 4 rfl ?_
      refine x_iadd C d_M_waysFrom_38 ?_
      refine x_iald C d_M_waysFrom_39 rfl hf (fun hf => ?_)
      refine x_iload_n C d_M_waysFrom_40 1 rfl ?_
      refine x_icmp_gt C d_M_waysFrom_41 hf (fun hf => ?_) (fun hf => ?_)
      · refine x_sub [0, 1, 2, 4] rfl ?_
        exact hJ7  hf
      refine x_iconst C d_M_waysFrom_44 1 ?_
      refine x_goto C d_M_waysFrom_45 ?_
      refine x_sub [0, 1, 2, 4] rfl ?_
      exact hJ4 1 hf
    refine x_iload_n C d_M_waysFrom_57 3 rfl ?_
    exact x_retR hR d_M_waysFrom_58 hf trivial
set_option maxRecDepth 4000 in
theorem m_M_waysFrom {w : Ww} {l0 : Launch} {F : Nat} {S : St} {p1 : Int32} {p2 : Int32} {rs : Int32}  (hf : M_waysFrom F S p1 p2 = some rs) : MI shM w l0 y_M_waysFrom b_M_waysFrom 5 .int 0 [.ref (w.1 0), .int p1, .int p2] S rs S bzT := by
  refine MI.of (by decide) (Nat.le_of_ble_eq_true rfl) rfl (fun _ _ => rfl) (fun x hnL C hR => ?_)
  rw [M_waysFrom] at hf
  refine x_iconst C d_M_waysFrom_0 0 ?_
  refine x_istore_n C d_M_waysFrom_1 [(3, .int 0), (0, .ref (w.1 0)), (1, .int p1), (2, .int p2)] (by rw [hnL]; decide) rfl ?_
  refine x_iconst C d_M_waysFrom_2 0 ?_
  refine x_istore C d_M_waysFrom_3 [(4, .int 0), (3, .int 0), (0, .ref (w.1 0)), (1, .int p1), (2, .int p2)] (by rw [hnL]; decide) rfl ?_
  refine x_sub [2, 3, 4, 1, 0] rfl ?_
  exact w_M_waysFrom_L5 hnL C hR  F 0 0 hf
set_option maxRecDepth 4000 in
theorem w_M_allKept_L6 {w : Ww} {l0 : Launch} {x : Cx} {F : Nat}  {rs : St}  (hnL : x.2.2.2.2.2.2.2.2.2.2.2.2 = 2) (C : XC shM w "NeighbourWiresModel" b_M_allKept l0 5 x) (hR : RV shM w b_M_allKept rs x)   : ∀ (n : Nat) (S2 : St) (v3 : Int32), M_allKept_L6 F n S2 v3 = some rs → WX shM w x S2 6 [(0, .ref (w.1 0)), (1, .int v3)] [] := by
  intro n
  induction n with
  | zero => intro S2 v3 hf; cases hf
  | succ n ih =>
    intro S2 v3 hf
    rw [M_allKept_L6] at hf
    refine x_iload_n C d_M_allKept_6 1 rfl ?_
    refine x_sipush C d_M_allKept_7 256 ?_
    refine x_icmp_ge C d_M_allKept_10 hf (fun hf => ?_) (fun hf => ?_)
    · refine x_aload_n C d_M_allKept_13 0 rfl ?_
      refine x_getr C d_M_allKept_14 f_M_isKept wd996 rfl rfl ?_
      refine x_iload_n C d_M_allKept_17 1 rfl ?_
      refine x_iload_n C d_M_allKept_18 1 rfl ?_
      refine x_iconst C d_M_allKept_19 1 ?_
      refine x_aload_n C d_M_allKept_20 0 rfl ?_
      refine x_get C d_M_allKept_21 f_M_wires wd966 rfl rfl ?_
      refine x_ishl C d_M_allKept_24 ?_
      refine x_jn (fun J5 => ∀ (v4 : Int32), J5 v4 = some rs → WX shM w x S2 33 [(0, .ref (w.1 0)), (1, .int v3)] [.int v4, .int v3, .ref (w.1 12)]) hf (fun v4 hf => ?_) (fun J5 hJ5 hf => ?_)
      · refine x_zastG C d_M_allKept_33 rfl hf (fun S6 hf => ?_)
        refine x_iinc C 1 d_M_allKept_34 1 rfl (by rw [hnL]; decide) hf (fun v7 => [(1, .int v7), (0, .ref (w.1 0))]) (fun _ => rfl) (fun v7 hf => ?_)
        refine x_goto C d_M_allKept_37 ?_
        refine x_sub [1, 0] rfl ?_
        exact ih S6 v7 hf
      refine x_icmp_ge C d_M_allKept_25 hf (fun hf => ?_) (fun hf => ?_)
      · refine x_iconst C d_M_allKept_28 1 ?_
        refine x_goto C d_M_allKept_29 ?_
        exact hJ5 1 hf
      refine x_iconst C d_M_allKept_32 0 ?_
      exact hJ5 0 hf
    exact hR _ _ _ d_M_allKept_40.1 hf
set_option maxRecDepth 4000 in
theorem m_M_allKept {w : Ww} {l0 : Launch} {F : Nat} {S : St} {rs : St}  (hf : M_allKept F S = some rs) : MV shM w l0 y_M_allKept b_M_allKept 2 5 [.ref (w.1 0)] S rs := by
  refine MV.of (by decide) (Nat.le_of_ble_eq_true rfl) rfl (fun x hnL C hR => ?_)
  rw [M_allKept] at hf
  refine x_aload_n C d_M_allKept_0 0 rfl ?_
  refine x_cvv C d_M_allKept_1 wd1310 cm_M_findSlows rfl rfl [] rfl rfl (by decide) (Nat.le_of_ble_eq_true rfl) hf (fun _ h => m_M_findSlows h) (fun S1 hf => ?_)
  refine x_iconst C d_M_allKept_4 0 ?_
  refine x_istore_n C d_M_allKept_5 [(1, .int 0), (0, .ref (w.1 0))] (by rw [hnL]; decide) rfl ?_
  refine x_sub [1, 0] rfl ?_
  exact w_M_allKept_L6 hnL C hR  F S1 0 hf
set_option maxRecDepth 4000 in
theorem w_M_findKept_L74 {w : Ww} {l0 : Launch} {x : Cx} {F : Nat} {S3 : St} {rs : (Int32 × St)}  (hnL : x.2.2.2.2.2.2.2.2.2.2.2.2 = 6) (C : XC shM w "NeighbourWiresModel" b_M_findKept l0 6 x) (hR : RI shM w b_M_findKept bzT rs x)   : ∀ (n : Nat) (v4 : Int32) (v5 : Int32), M_findKept_L74 F S3 n v4 v5 = some rs → WX shM w x S3 74 [(0, .ref (w.1 0)), (4, .int v4), (5, .int v5)] [] := by
  intro n
  induction n with
  | zero => intro v4 v5 hf; cases hf
  | succ n ih =>
    intro v4 v5 hf
    rw [M_findKept_L74] at hf
    refine x_iload C d_M_findKept_74 2 rfl ?_
    refine x_iconst C d_M_findKept_76 1 ?_
    refine x_aload_n C d_M_findKept_77 0 rfl ?_
    refine x_get C d_M_findKept_78 f_M_wires wd966 rfl rfl ?_
    refine x_ishl C d_M_findKept_81 ?_
    refine x_icmp_ge C d_M_findKept_82 hf (fun hf => ?_) (fun hf => ?_)
    · refine x_iload C d_M_findKept_85 1 rfl ?_
      refine x_aload_n C d_M_findKept_87 0 rfl ?_
      refine x_getr C d_M_findKept_88 f_M_isKept wd996 rfl rfl ?_
      refine x_iload C d_M_findKept_91 2 rfl ?_
      refine x_zald C d_M_findKept_93 rfl hf (fun hf => ?_)
      refine x_jn (fun J7 => ∀ (v6 : Int32), J7 v6 = some rs → WX shM w x S3 102 [(0, .ref (w.1 0)), (5, .int v5)] [.int v6, .int v4]) hf (fun v6 hf => ?_) (fun J7 hJ7 hf => ?_)
      · refine x_iadd C d_M_findKept_102 ?_
        refine x_bi hf (fun v8 hf => ?_)
        refine x_istore C d_M_findKept_103 [(4, .int v8), (0, .ref (w.1 0)), (5, .int v5)] (by rw [hnL]; decide) rfl ?_
        refine x_iinc C 1 d_M_findKept_105 2 rfl (by rw [hnL]; decide) hf (fun v9 => [(5, .int v9), (4, .int v8), (0, .ref (w.1 0))]) (fun _ => rfl) (fun v9 hf => ?_)
        refine x_goto C d_M_findKept_108 ?_
        refine x_sub [2, 1, 0] rfl ?_
        exact ih v8 v9 hf
      refine x_if_eq C d_M_findKept_94 hf (fun hf => ?_) (fun hf => ?_)
      · refine x_iconst C d_M_findKept_101 0 ?_
        refine x_sub [0, 2] rfl ?_
        exact hJ7 0 hf
      refine x_iconst C d_M_findKept_97 1 ?_
      refine x_goto C d_M_findKept_98 ?_
      refine x_sub [0, 2] rfl ?_
      exact hJ7 1 hf
    refine x_iload C d_M_findKept_111 1 rfl ?_
    exact hR _ _ _ _ d_M_findKept_113.1 hf trivial
set_option maxRecDepth 4000 in
theorem w_M_findKept_L15 {w : Ww} {l0 : Launch} {x : Cx} {F : Nat} {p1 : Int32} {p2 : Int32} {rs : (Int32 × St)} {k12 : St → Int32 → Option (Int32 × St)} (hnL : x.2.2.2.2.2.2.2.2.2.2.2.2 = 6) (C : XC shM w "NeighbourWiresModel" b_M_findKept l0 6 x) (hR : RI shM w b_M_findKept bzT rs x)  (hk12 : ∀ (S13 : St) (v14 : Int32), k12 S13 v14 = some rs → WX shM w x S13 65 [(0, .ref (w.1 0)), (1, .int p1), (2, .int p2), (3, .int v14)] []) : ∀ (n : Nat) (S15 : St) (v16 : Int32) (v17 : Int32), M_findKept_L15 F p1 p2 k12 n S15 v16 v17 = some rs → WX shM w x S15 15 [(0, .ref (w.1 0)), (1, .int p1), (2, .int p2), (3, .int v16), (4, .int v17)] [] := by
  intro n
  induction n with
  | zero => intro S15 v16 v17 hf; cases hf
  | succ n ih =>
    intro S15 v16 v17 hf
    rw [M_findKept_L15] at hf
    refine x_iload C d_M_findKept_15 4 rfl ?_
    refine x_iconst C d_M_findKept_17 1 ?_
    refine x_aload_n C d_M_findKept_18 0 rfl ?_
    refine x_get C d_M_findKept_19 f_M_wires wd966 rfl rfl ?_
    refine x_ishl C d_M_findKept_22 ?_
    refine x_icmp_ge C d_M_findKept_23 hf (fun hf => ?_) (fun hf => ?_)
    · refine x_aload_n C d_M_findKept_26 0 rfl ?_
      refine x_getr C d_M_findKept_27 f_M_isKept wd996 rfl rfl ?_
      refine x_iload C d_M_findKept_30 4 rfl ?_
      refine x_zald C d_M_findKept_32 rfl hf (fun hf => ?_)
      refine x_jn (fun J20 => ∀ (S18 : St) (v19 : Int32), J20 S18 v19 = some rs → WX shM w x S18 59 [(0, .ref (w.1 0)), (1, .int p1), (2, .int p2), (3, .int v19), (4, .int v17)] []) hf (fun S18 v19 hf => ?_) (fun J20 hJ20 hf => ?_)
      · refine x_iinc C 1 d_M_findKept_59 4 rfl (by rw [hnL]; decide) hf (fun v21 => [(4, .int v21), (0, .ref (w.1 0)), (1, .int p1), (2, .int p2), (3, .int v19)]) (fun _ => rfl) (fun v21 hf => ?_)
        refine x_goto C d_M_findKept_62 ?_
        refine x_sub [1, 2, 3, 4, 0] rfl ?_
        exact ih S18 v19 v21 hf
      refine x_if_eq C d_M_findKept_33 hf (fun hf => ?_) (fun hf => ?_)
      · exact hJ20 S15 v16 hf
      refine x_aload_n C d_M_findKept_36 0 rfl ?_
      refine x_iload_n C d_M_findKept_37 1 rfl ?_
      refine x_iload C d_M_findKept_38 4 rfl ?_
      refine x_cvr C d_M_findKept_40 wd1314 cm_M_waysFrom rfl rfl [.int p1, .int v17] rfl rfl (by decide) (Nat.le_of_ble_eq_true rfl) hf (fun _ h => m_M_waysFrom h) (fun v22 hf hb_v22 => ?_)
      refine x_iconst C d_M_findKept_43 1 ?_
      refine x_iload_n C d_M_findKept_44 2 rfl ?_
      refine x_ishl C d_M_findKept_45 ?_
      refine x_icmp_ge C d_M_findKept_46 hf (fun hf => ?_) (fun hf => ?_)
      · refine x_aload_n C d_M_findKept_49 0 rfl ?_
        refine x_getr C d_M_findKept_50 f_M_isKept wd996 rfl rfl ?_
        refine x_iload C d_M_findKept_53 4 rfl ?_
        refine x_iconst C d_M_findKept_55 0 ?_
        refine x_zast C d_M_findKept_56 rfl (by decide) hf (fun S23 hf => ?_)
        refine x_iconst C d_M_findKept_57 1 ?_
        refine x_istore_n C d_M_findKept_58 [(3, .int 1), (0, .ref (w.1 0)), (1, .int p1), (2, .int p2), (4, .int v17)] (by rw [hnL]; decide) rfl ?_
        refine x_sub [1, 2, 3, 0, 4] rfl ?_
        exact hJ20 S23 1 hf
      exact hJ20 S15 v16 hf
    refine x_sub [0, 1, 2, 3] rfl ?_
    exact hk12 S15 v16 hf
set_option maxRecDepth 4000 in
theorem w_M_findKept_L6 {w : Ww} {l0 : Launch} {x : Cx} {F : Nat} {p1 : Int32} {p2 : Int32} {rs : (Int32 × St)} {k2 : St → Option (Int32 × St)} (hnL : x.2.2.2.2.2.2.2.2.2.2.2.2 = 6) (C : XC shM w "NeighbourWiresModel" b_M_findKept l0 6 x) (hR : RI shM w b_M_findKept bzT rs x)  (hk2 : ∀ (S3 : St), k2 S3 = some rs → WX shM w x S3 68 [(0, .ref (w.1 0))] []) : ∀ (n : Nat) (S10 : St) (v11 : Int32), M_findKept_L6 F p1 p2 k2 n S10 v11 = some rs → WX shM w x S10 6 [(0, .ref (w.1 0)), (1, .int p1), (2, .int p2), (3, .int v11)] [] := by
  intro n
  induction n with
  | zero => intro S10 v11 hf; cases hf
  | succ n ih =>
    intro S10 v11 hf
    rw [M_findKept_L6] at hf
    refine x_iload_n C d_M_findKept_6 3 rfl ?_
    refine x_if_eq C d_M_findKept_7 hf (fun hf => ?_) (fun hf => ?_)
    · refine x_sub [0] rfl ?_
      exact hk2 S10 hf
    refine x_iconst C d_M_findKept_10 0 ?_
    refine x_istore_n C d_M_findKept_11 [(3, .int 0), (0, .ref (w.1 0)), (1, .int p1), (2, .int p2)] (by rw [hnL]; decide) rfl ?_
    refine x_iconst C d_M_findKept_12 0 ?_
    refine x_istore C d_M_findKept_13 [(4, .int 0), (3, .int 0), (0, .ref (w.1 0)), (1, .int p1), (2, .int p2)] (by rw [hnL]; decide) rfl ?_
    refine x_sub [2, 3, 4, 1, 0] rfl ?_
    refine w_M_findKept_L15 hnL C hR (fun S13 v14 hf => ?_) F S10 0 0 hf
    refine x_goto C d_M_findKept_65 ?_
    exact ih S13 v14 hf
set_option maxRecDepth 4000 in
theorem m_M_findKept {w : Ww} {l0 : Launch} {F : Nat} {S : St} {p1 : Int32} {p2 : Int32} {r : Int32} {S9 : St}  (hf : M_findKept F S p1 p2 = some (r, S9)) : MI shM w l0 y_M_findKept b_M_findKept 6 .int 6 [.ref (w.1 0), .int p1, .int p2] S r S9 bzT := by
  refine MI.of (by decide) (Nat.le_of_ble_eq_true rfl) rfl (fun _ _ => rfl) (fun x hnL C hR => ?_)
  rw [M_findKept] at hf
  refine x_aload_n C d_M_findKept_0 0 rfl ?_
  refine x_cvv C d_M_findKept_1 wd1306 cm_M_allKept rfl rfl [] rfl rfl (by decide) (Nat.le_of_ble_eq_true rfl) hf (fun _ h => m_M_allKept h) (fun S1 hf => ?_)
  refine x_iconst C d_M_findKept_4 1 ?_
  refine x_istore_n C d_M_findKept_5 [(3, .int 1), (0, .ref (w.1 0)), (1, .int p1), (2, .int p2)] (by rw [hnL]; decide) rfl ?_
  refine x_sub [1, 2, 3, 0] rfl ?_
  refine w_M_findKept_L6 hnL C hR (fun S3 hf => ?_) F S1 1 hf
  refine x_iconst C d_M_findKept_68 0 ?_
  refine x_istore C d_M_findKept_69 [(4, .int 0), (0, .ref (w.1 0))] (by rw [hnL]; decide) rfl ?_
  refine x_iconst C d_M_findKept_71 0 ?_
  refine x_istore C d_M_findKept_72 [(5, .int 0), (4, .int 0), (0, .ref (w.1 0))] (by rw [hnL]; decide) rfl ?_
  refine x_sub [2, 1, 0] rfl ?_
  exact w_M_findKept_L74 hnL C hR  F 0 0 hf
set_option maxRecDepth 4000 in
theorem w_M_leastKept_L2 {w : Ww} {l0 : Launch} {x : Cx} {F : Nat} {S : St} {rs : Int32}  (hnL : x.2.2.2.2.2.2.2.2.2.2.2.2 = 2) (C : XC shM w "NeighbourWiresModel" b_M_leastKept l0 0 x) (hR : RI shM w b_M_leastKept bzT (rs, S) x)   : ∀ (n : Nat) (v1 : Int32), M_leastKept_L2 F S n v1 = some rs → WX shM w x S 2 [(0, .ref (w.1 0)), (1, .int v1)] [] := by
  intro n
  induction n with
  | zero => intro v1 hf; cases hf
  | succ n ih =>
    intro v1 hf
    rw [M_leastKept_L2] at hf
    refine x_iload_n C d_M_leastKept_2 1 rfl ?_
    refine x_iconst C d_M_leastKept_3 1 ?_
    refine x_aload_n C d_M_leastKept_4 0 rfl ?_
    refine x_get C d_M_leastKept_5 f_M_wires wd966 rfl rfl ?_
    refine x_ishl C d_M_leastKept_8 ?_
    refine x_icmp_ge C d_M_leastKept_9 hf (fun hf => ?_) (fun hf => ?_)
    · refine x_aload_n C d_M_leastKept_12 0 rfl ?_
      refine x_getr C d_M_leastKept_13 f_M_isKept wd996 rfl rfl ?_
      refine x_iload_n C d_M_leastKept_16 1 rfl ?_
      refine x_zald C d_M_leastKept_17 rfl hf (fun hf => ?_)
      refine x_if_eq C d_M_leastKept_18 hf (fun hf => ?_) (fun hf => ?_)
      · refine x_iinc C 1 d_M_leastKept_23 1 rfl (by rw [hnL]; decide) hf (fun v2 => [(1, .int v2), (0, .ref (w.1 0))]) (fun _ => rfl) (fun v2 hf => ?_)
        refine x_goto C d_M_leastKept_26 ?_
        refine x_sub [1, 0] rfl ?_
        exact ih v2 hf
      refine x_iload_n C d_M_leastKept_21 1 rfl ?_
      exact x_retR hR d_M_leastKept_22 hf trivial
    refine x_bipush C d_M_leastKept_29 (-4) ?_
    exact x_retR hR d_M_leastKept_31 hf trivial
set_option maxRecDepth 4000 in
theorem m_M_leastKept {w : Ww} {l0 : Launch} {F : Nat} {S : St} {rs : Int32}  (hf : M_leastKept F S = some rs) : MI shM w l0 y_M_leastKept b_M_leastKept 2 .int 0 [.ref (w.1 0)] S rs S bzT := by
  refine MI.of (by decide) (Nat.le_of_ble_eq_true rfl) rfl (fun _ _ => rfl) (fun x hnL C hR => ?_)
  rw [M_leastKept] at hf
  refine x_iconst C d_M_leastKept_0 0 ?_
  refine x_istore_n C d_M_leastKept_1 [(1, .int 0), (0, .ref (w.1 0))] (by rw [hnL]; decide) rfl ?_
  refine x_sub [1, 0] rfl ?_
  exact w_M_leastKept_L2 hnL C hR  F 0 hf
set_option maxRecDepth 4000 in
theorem m_M_ways {w : Ww} {l0 : Launch} {F : Nat} {S : St} {p1 : Int32} {p2 : Int32} {r : Int32} {S9 : St}  (hf : M_ways F S p1 p2 = some (r, S9)) : MI shM w l0 y_M_ways b_M_ways 3 .int 6 [.ref (w.1 0), .int p1, .int p2] S r S9 bzT := by
  refine MI.of (by decide) (Nat.le_of_ble_eq_true rfl) rfl (fun _ _ => rfl) (fun x hnL C hR => ?_)
  rw [M_ways] at hf
  refine x_iload_n C d_M_ways_0 1 rfl ?_
  refine x_i2l C d_M_ways_1 ?_
  refine x_lconst C d_M_ways_2 0 ?_
  refine x_ldc2 C d_M_ways_3 wd1223 ?_
  refine x_csr C d_M_ways_6 wd1088 cm_M_in [.long (Int32.toInt64 p1), .long 0, .long 4] rfl rfl (by decide) (Nat.le_of_ble_eq_true rfl) hf (fun _ h => m_M_in h) (fun v1 hf hb_v1 => ?_)
  refine x_if_eq C d_M_ways_9 hf (fun hf => ?_) (fun hf => ?_)
  · refine x_iconst C d_M_ways_20 (-1) ?_
    exact hR _ _ _ _ d_M_ways_21.1 hf trivial
  refine x_aload_n C d_M_ways_12 0 rfl ?_
  refine x_iload_n C d_M_ways_13 2 rfl ?_
  refine x_cvr C d_M_ways_14 wd1159 cm_M_isWord rfl rfl [.int p2] rfl rfl (by decide) (Nat.le_of_ble_eq_true rfl) hf (fun _ h => m_M_isWord h) (fun v2 hf hb_v2 => ?_)
  refine x_if_ne C d_M_ways_17 hf (fun hf => ?_) (fun hf => ?_)
  · refine x_iconst C d_M_ways_20 (-1) ?_
    exact hR _ _ _ _ d_M_ways_21.1 hf trivial
  refine x_aload_n C d_M_ways_22 0 rfl ?_
  refine x_cvv C d_M_ways_23 wd1306 cm_M_allKept rfl rfl [] rfl rfl (by decide) (Nat.le_of_ble_eq_true rfl) hf (fun _ h => m_M_allKept h) (fun S3 hf => ?_)
  refine x_aload_n C d_M_ways_26 0 rfl ?_
  refine x_iload_n C d_M_ways_27 1 rfl ?_
  refine x_iload_n C d_M_ways_28 2 rfl ?_
  refine x_cvr C d_M_ways_29 wd1314 cm_M_waysFrom rfl rfl [.int p1, .int p2] rfl rfl (by decide) (Nat.le_of_ble_eq_true rfl) hf (fun _ h => m_M_waysFrom h) (fun v4 hf hb_v4 => ?_)
  exact hR _ _ _ _ d_M_ways_32.1 hf trivial
set_option maxRecDepth 4000 in
theorem m_M_kept {w : Ww} {l0 : Launch} {F : Nat} {S : St} {p1 : Int32} {p2 : Int32} {p3 : Int32} {r : Int32} {S9 : St}  (hf : M_kept F S p1 p2 p3 = some (r, S9)) : MI shM w l0 y_M_kept b_M_kept 5 .int 7 [.ref (w.1 0), .int p1, .int p2, .int p3] S r S9 bzT := by
  refine MI.of (by decide) (Nat.le_of_ble_eq_true rfl) rfl (fun _ _ => rfl) (fun x hnL C hR => ?_)
  rw [M_kept] at hf
  refine x_iload_n C d_M_kept_0 1 rfl ?_
  refine x_i2l C d_M_kept_1 ?_
  refine x_lconst C d_M_kept_2 0 ?_
  refine x_ldc2 C d_M_kept_3 wd1223 ?_
  refine x_csr C d_M_kept_6 wd1088 cm_M_in [.long (Int32.toInt64 p1), .long 0, .long 4] rfl rfl (by decide) (Nat.le_of_ble_eq_true rfl) hf (fun _ h => m_M_in h) (fun v1 hf hb_v1 => ?_)
  refine x_if_eq C d_M_kept_9 hf (fun hf => ?_) (fun hf => ?_)
  · refine x_iconst C d_M_kept_34 (-1) ?_
    exact hR _ _ _ _ d_M_kept_35.1 hf trivial
  refine x_iload_n C d_M_kept_12 2 rfl ?_
  refine x_i2l C d_M_kept_13 ?_
  refine x_lconst C d_M_kept_14 0 ?_
  refine x_ldc2 C d_M_kept_15 wd1322 ?_
  refine x_csr C d_M_kept_18 wd1088 cm_M_in [.long (Int32.toInt64 p2), .long 0, .long 8] rfl rfl (by decide) (Nat.le_of_ble_eq_true rfl) hf (fun _ h => m_M_in h) (fun v2 hf hb_v2 => ?_)
  refine x_if_eq C d_M_kept_21 hf (fun hf => ?_) (fun hf => ?_)
  · refine x_iconst C d_M_kept_34 (-1) ?_
    exact hR _ _ _ _ d_M_kept_35.1 hf trivial
  refine x_iload_n C d_M_kept_24 3 rfl ?_
  refine x_i2l C d_M_kept_25 ?_
  refine x_lconst C d_M_kept_26 0 ?_
  refine x_lconst C d_M_kept_27 1 ?_
  refine x_csr C d_M_kept_28 wd1088 cm_M_in [.long (Int32.toInt64 p3), .long 0, .long 1] rfl rfl (by decide) (Nat.le_of_ble_eq_true rfl) hf (fun _ h => m_M_in h) (fun v3 hf hb_v3 => ?_)
  refine x_if_ne C d_M_kept_31 hf (fun hf => ?_) (fun hf => ?_)
  · refine x_iconst C d_M_kept_34 (-1) ?_
    exact hR _ _ _ _ d_M_kept_35.1 hf trivial
  refine x_aload_n C d_M_kept_36 0 rfl ?_
  refine x_iload_n C d_M_kept_37 1 rfl ?_
  refine x_iload_n C d_M_kept_38 2 rfl ?_
  refine x_cvi C d_M_kept_39 wd1323 cm_M_findKept rfl rfl [.int p1, .int p2] rfl rfl (by decide) (Nat.le_of_ble_eq_true rfl) hf (fun _ _ h => m_M_findKept h) (fun v4 S5 hf hb_v4 => ?_)
  refine x_istore C d_M_kept_42 [(4, .int v4), (0, .ref (w.1 0)), (1, .int p1), (2, .int p2), (3, .int p3)] (by rw [hnL]; decide) rfl ?_
  refine x_iload_n C d_M_kept_44 4 rfl ?_
  refine x_if_ne C d_M_kept_45 hf (fun hf => ?_) (fun hf => ?_)
  · refine x_iload C d_M_kept_48 0 rfl ?_
    refine x_goto C d_M_kept_50 ?_
    exact hR _ _ _ _ d_M_kept_57.1 hf trivial
  refine x_aload_n C d_M_kept_53 1 rfl ?_
  refine x_cvr C d_M_kept_54 wd1327 cm_M_leastKept rfl rfl [] rfl rfl (by decide) (Nat.le_of_ble_eq_true rfl) hf (fun _ h => m_M_leastKept h) (fun v6 hf hb_v6 => ?_)
  exact hR _ _ _ _ d_M_kept_57.1 hf trivial
set_option maxRecDepth 4000 in
theorem w_M_bits_L16 {w : Ww} {l0 : Launch} {x : Cx} {F : Nat} {p1 : Int32} {rs : (Int32 × St)}  (hnL : x.2.2.2.2.2.2.2.2.2.2.2.2 = 3) (C : XC shM w "NeighbourWiresModel" b_M_bits l0 7 x) (hR : RI shM w b_M_bits bzT rs x)   : ∀ (n : Nat) (S2 : St) (v3 : Int32), M_bits_L16 F p1 n S2 v3 = some rs → WX shM w x S2 16 [(0, .ref (w.1 0)), (1, .int p1), (2, .int v3)] [] := by
  intro n
  induction n with
  | zero => intro S2 v3 hf; cases hf
  | succ n ih =>
    intro S2 v3 hf
    rw [M_bits_L16] at hf
    refine x_iload_n C d_M_bits_16 2 rfl ?_
    refine x_bipush C d_M_bits_17 8 ?_
    refine x_icmp_ge C d_M_bits_19 hf (fun hf => ?_) (fun hf => ?_)
    · refine x_aload_n C d_M_bits_22 0 rfl ?_
      refine x_iload_n C d_M_bits_23 1 rfl ?_
      refine x_iload_n C d_M_bits_24 2 rfl ?_
      refine x_iconst C d_M_bits_25 1 ?_
      refine x_iadd C d_M_bits_26 ?_
      refine x_cvi C d_M_bits_27 wd1323 cm_M_findKept rfl rfl [.int p1, .int (v3 + 1)] rfl rfl (by decide) (Nat.le_of_ble_eq_true rfl) hf (fun _ _ h => m_M_findKept h) (fun v4 S5 hf hb_v4 => ?_)
      refine x_if_le C d_M_bits_30 hf (fun hf => ?_) (fun hf => ?_)
      · refine x_iinc C 1 d_M_bits_33 2 rfl (by rw [hnL]; decide) hf (fun v6 => [(2, .int v6), (0, .ref (w.1 0)), (1, .int p1)]) (fun _ => rfl) (fun v6 hf => ?_)
        refine x_goto C d_M_bits_36 ?_
        refine x_sub [1, 2, 0] rfl ?_
        exact ih S5 v6 hf
      refine x_iload_n C d_M_bits_39 2 rfl ?_
      exact hR _ _ _ _ d_M_bits_40.1 hf trivial
    refine x_iload_n C d_M_bits_39 2 rfl ?_
    exact hR _ _ _ _ d_M_bits_40.1 hf trivial
set_option maxRecDepth 4000 in
theorem m_M_bits {w : Ww} {l0 : Launch} {F : Nat} {S : St} {p1 : Int32} {r : Int32} {S9 : St}  (hf : M_bits F S p1 = some (r, S9)) : MI shM w l0 y_M_bits b_M_bits 3 .int 7 [.ref (w.1 0), .int p1] S r S9 bzT := by
  refine MI.of (by decide) (Nat.le_of_ble_eq_true rfl) rfl (fun _ _ => rfl) (fun x hnL C hR => ?_)
  rw [M_bits] at hf
  refine x_iload_n C d_M_bits_0 1 rfl ?_
  refine x_i2l C d_M_bits_1 ?_
  refine x_lconst C d_M_bits_2 0 ?_
  refine x_ldc2 C d_M_bits_3 wd1223 ?_
  refine x_csr C d_M_bits_6 wd1088 cm_M_in [.long (Int32.toInt64 p1), .long 0, .long 4] rfl rfl (by decide) (Nat.le_of_ble_eq_true rfl) hf (fun _ h => m_M_in h) (fun v1 hf hb_v1 => ?_)
  refine x_if_ne C d_M_bits_9 hf (fun hf => ?_) (fun hf => ?_)
  · refine x_iconst C d_M_bits_12 (-1) ?_
    exact hR _ _ _ _ d_M_bits_13.1 hf trivial
  refine x_iconst C d_M_bits_14 0 ?_
  refine x_istore_n C d_M_bits_15 [(2, .int 0), (0, .ref (w.1 0)), (1, .int p1)] (by rw [hnL]; decide) rfl ?_
  refine x_sub [1, 2, 0] rfl ?_
  exact w_M_bits_L16 hnL C hR  F S 0 hf
set_option maxRecDepth 4000 in
theorem w_M_encode_L100 {w : Ww} {l0 : Launch} {x : Cx} {F : Nat} {p1 : Int32} {p2 : Int32} {p4 : Int32} {S5 : St} {v7 : Int32} {v9 : Int32} {v12 : Int32} {rs : (Int32 × St)} {k13 : Int32 → Option (Int32 × St)} (hnL : x.2.2.2.2.2.2.2.2.2.2.2.2 = 10) (C : XC shM w "NeighbourWiresModel" b_M_encode l0 7 x) (hR : RI shM w b_M_encode bzT rs x)  (hk13 : ∀ (v14 : Int32), k13 v14 = some rs → WX shM w x S5 177 [(0, .ref (w.1 0)), (1, .int p1), (2, .int p2), (4, .int p4), (6, .int v12), (7, .int v9), (9, .int v14)] []) : ∀ (n : Nat) (v16 : Int32) (v17 : Int32), M_encode_L100 F p1 p2 p4 S5 v7 v9 v12 k13 n v16 v17 = some rs → WX shM w x S5 100 [(0, .ref (w.1 0)), (1, .int p1), (2, .int p2), (4, .int p4), (5, .int v7), (6, .int v12), (7, .int v9), (8, .int v16), (9, .int v17)] [] := by
  intro n
  induction n with
  | zero => intro v16 v17 hf; cases hf
  | succ n ih =>
    intro v16 v17 hf
    rw [M_encode_L100] at hf
    refine x_iload C d_M_encode_100 7 rfl ?_
    refine x_jn (fun J18 => J18  = some rs → WX shM w x S5 133 [(0, .ref (w.1 0)), (1, .int p1), (2, .int p2), (4, .int p4), (5, .int v7), (6, .int v12), (7, .int v9), (8, .int v16), (9, .int v17)] []) hf (fun hf => ?_) (fun J18 hJ18 hf => ?_)
    · refine x_iload C d_M_encode_133 7 rfl ?_
      refine x_aload_n C d_M_encode_135 0 rfl ?_
      refine x_getr C d_M_encode_136 f_M_isKept wd996 rfl rfl ?_
      refine x_iload C d_M_encode_139 8 rfl ?_
      refine x_zald C d_M_encode_141 rfl hf (fun hf => ?_)
      refine x_jn (fun J20 => ∀ (v19 : Int32), J20 v19 = some rs → WX shM w x S5 168 [(0, .ref (w.1 0)), (1, .int p1), (2, .int p2), (4, .int p4), (5, .int v7), (6, .int v12), (7, .int v9), (9, .int v17)] [.int v19, .int v16]) hf (fun v19 hf => ?_) (fun J20 hJ20 hf => ?_)
      · refine x_isub C d_M_encode_168 ?_
        refine x_bi hf (fun v21 hf => ?_)
        refine x_istore C d_M_encode_169 [(8, .int v21), (0, .ref (w.1 0)), (1, .int p1), (2, .int p2), (4, .int p4), (5, .int v7), (6, .int v12), (7, .int v9), (9, .int v17)] (by rw [hnL]; decide) rfl ?_
        refine x_iinc C 1 d_M_encode_171 8 rfl (by rw [hnL]; decide) hf (fun v22 => [(9, .int v22), (8, .int v21), (0, .ref (w.1 0)), (1, .int p1), (2, .int p2), (4, .int p4), (5, .int v7), (6, .int v12), (7, .int v9)]) (fun _ => rfl) (fun v22 hf => ?_)
        refine x_goto C d_M_encode_174 ?_
        refine x_sub [2, 3, 4, 5, 6, 7, 8, 1, 0] rfl ?_
        exact ih v21 v22 hf
      refine x_jn (fun J23 => J23  = some rs → WX shM w x S5 167 [(0, .ref (w.1 0)), (1, .int p1), (2, .int p2), (4, .int p4), (5, .int v7), (6, .int v12), (7, .int v9), (9, .int v17)] [.int v16]) hf (fun hf => ?_) (fun J23 hJ23 hf => ?_)
      · refine x_iconst C d_M_encode_167 0 ?_
        exact hJ20 0 hf
      refine x_if_eq C d_M_encode_142 hf (fun hf => ?_) (fun hf => ?_)
      · refine x_sub [0, 1, 2, 3, 4, 5, 6, 8] rfl ?_
        exact hJ23  hf
      refine x_aload_n C d_M_encode_145 0 rfl ?_
      refine x_getr C d_M_encode_146 f_M_slows wd998 rfl rfl ?_
      refine x_sipush C d_M_encode_149 256 ?_
      refine x_iload C d_M_encode_152 4 rfl ?_
      refine x_imul C d_M_encode_154 ?_
      refine x_iload C d_M_encode_155 8 rfl ?_
      refine x_iadd C d_M_encode_157 ?_
      refine x_iald C d_M_encode_158 rfl hf (fun hf => ?_)
      refine x_iload_n C d_M_encode_159 1 rfl ?_
      refine x_icmp_gt C d_M_encode_160 hf (fun hf => ?_) (fun hf => ?_)
      · refine x_sub [0, 1, 2, 3, 4, 5, 6, 8] rfl ?_
        exact hJ23  hf
      refine x_iconst C d_M_encode_163 1 ?_
      refine x_goto C d_M_encode_164 ?_
      refine x_sub [0, 1, 2, 3, 4, 5, 6, 8] rfl ?_
      exact hJ20 1 hf
    refine x_if_gt C d_M_encode_102 hf (fun hf => ?_) (fun hf => ?_)
    · exact hJ18  hf
    refine x_aload_n C d_M_encode_105 0 rfl ?_
    refine x_getr C d_M_encode_106 f_M_isKept wd996 rfl rfl ?_
    refine x_iload C d_M_encode_109 8 rfl ?_
    refine x_zald C d_M_encode_111 rfl hf (fun hf => ?_)
    refine x_if_eq C d_M_encode_112 hf (fun hf => ?_) (fun hf => ?_)
    · exact hJ18  hf
    refine x_aload_n C d_M_encode_115 0 rfl ?_
    refine x_getr C d_M_encode_116 f_M_slows wd998 rfl rfl ?_
    refine x_sipush C d_M_encode_119 256 ?_
    refine x_iload C d_M_encode_122 4 rfl ?_
    refine x_imul C d_M_encode_124 ?_
    refine x_iload C d_M_encode_125 8 rfl ?_
    refine x_iadd C d_M_encode_127 ?_
    refine x_iald C d_M_encode_128 rfl hf (fun hf => ?_)
    refine x_iload_n C d_M_encode_129 1 rfl ?_
    refine x_icmp_le C d_M_encode_130 hf (fun hf => ?_) (fun hf => ?_)
    · exact hJ18  hf
    refine x_sub [0, 1, 2, 3, 5, 6, 8] rfl ?_
    exact hk13 v17 hf
set_option maxRecDepth 4000 in
theorem w_M_encode_L76 {w : Ww} {l0 : Launch} {x : Cx} {F : Nat} {p1 : Int32} {p2 : Int32} {p4 : Int32} {S5 : St} {rs : (Int32 × St)}  (hnL : x.2.2.2.2.2.2.2.2.2.2.2.2 = 10) (C : XC shM w "NeighbourWiresModel" b_M_encode l0 7 x) (hR : RI shM w b_M_encode bzT rs x)   : ∀ (n : Nat) (v7 : Int32) (v8 : Int32) (v9 : Int32), M_encode_L76 F p1 p2 p4 S5 n v7 v8 v9 = some rs → WX shM w x S5 76 [(0, .ref (w.1 0)), (1, .int p1), (2, .int p2), (4, .int p4), (5, .int v7), (6, .int v8), (7, .int v9)] [] := by
  intro n
  induction n with
  | zero => intro v7 v8 v9 hf; cases hf
  | succ n ih =>
    intro v7 v8 v9 hf
    rw [M_encode_L76] at hf
    refine x_iload C d_M_encode_76 6 rfl ?_
    refine x_iload C d_M_encode_78 3 rfl ?_
    refine x_icmp_ge C d_M_encode_80 hf (fun hf => ?_) (fun hf => ?_)
    · refine x_iload C d_M_encode_83 5 rfl ?_
      refine x_iconst C d_M_encode_85 1 ?_
      refine x_iload_n C d_M_encode_86 2 rfl ?_
      refine x_ishl C d_M_encode_87 ?_
      obtain ⟨q10, hf⟩ := nz_in hf
      refine x_irem C d_M_encode_88 q10 ?_
      refine x_bi hf (fun v11 hf => ?_)
      refine x_istore C d_M_encode_89 [(8, .int v11), (0, .ref (w.1 0)), (1, .int p1), (2, .int p2), (4, .int p4), (5, .int v7), (6, .int v8), (7, .int v9)] (by rw [hnL]; decide) rfl ?_
      refine x_iload C d_M_encode_91 6 rfl ?_
      refine x_iload_n C d_M_encode_93 3 rfl ?_
      refine x_ishr C d_M_encode_94 ?_
      refine x_bi hf (fun v12 hf => ?_)
      refine x_istore C d_M_encode_95 [(6, .int v12), (8, .int v11), (0, .ref (w.1 0)), (1, .int p1), (2, .int p2), (4, .int p4), (5, .int v7), (7, .int v9)] (by rw [hnL]; decide) rfl ?_
      refine x_iconst C d_M_encode_97 0 ?_
      refine x_istore C d_M_encode_98 [(9, .int 0), (6, .int v12), (8, .int v11), (0, .ref (w.1 0)), (1, .int p1), (2, .int p2), (4, .int p4), (5, .int v7), (7, .int v9)] (by rw [hnL]; decide) rfl ?_
      refine x_sub [3, 4, 5, 6, 7, 1, 8, 2, 0] rfl ?_
      refine w_M_encode_L100 hnL C hR (fun v14 hf => ?_) F v11 0 hf
      refine x_iload C d_M_encode_177 6 rfl ?_
      refine x_istore C d_M_encode_179 [(5, .int v14), (0, .ref (w.1 0)), (1, .int p1), (2, .int p2), (4, .int p4), (6, .int v12), (7, .int v9), (9, .int v14)] (by rw [hnL]; decide) rfl ?_
      refine x_iinc C 1 d_M_encode_181 6 rfl (by rw [hnL]; decide) hf (fun v15 => [(7, .int v15), (5, .int v14), (0, .ref (w.1 0)), (1, .int p1), (2, .int p2), (4, .int p4), (6, .int v12), (9, .int v14)]) (fun _ => rfl) (fun v15 hf => ?_)
      refine x_goto C d_M_encode_184 ?_
      refine x_sub [2, 3, 4, 5, 1, 6, 0] rfl ?_
      exact ih v14 v12 v15 hf
    refine x_iload C d_M_encode_187 4 rfl ?_
    exact hR _ _ _ _ d_M_encode_189.1 hf trivial
set_option maxRecDepth 4000 in
theorem m_M_encode {w : Ww} {l0 : Launch} {F : Nat} {S : St} {p1 : Int32} {p2 : Int32} {p3 : Int32} {p4 : Int32} {r : Int32} {S9 : St}  (hf : M_encode F S p1 p2 p3 p4 = some (r, S9)) : MI shM w l0 y_M_encode b_M_encode 10 .int 7 [.ref (w.1 0), .int p1, .int p2, .int p3, .int p4] S r S9 bzT := by
  refine MI.of (by decide) (Nat.le_of_ble_eq_true rfl) rfl (fun _ _ => rfl) (fun x hnL C hR => ?_)
  rw [M_encode] at hf
  refine x_iload_n C d_M_encode_0 1 rfl ?_
  refine x_i2l C d_M_encode_1 ?_
  refine x_lconst C d_M_encode_2 0 ?_
  refine x_ldc2 C d_M_encode_3 wd1223 ?_
  refine x_csr C d_M_encode_6 wd1088 cm_M_in [.long (Int32.toInt64 p1), .long 0, .long 4] rfl rfl (by decide) (Nat.le_of_ble_eq_true rfl) hf (fun _ h => m_M_in h) (fun v1 hf hb_v1 => ?_)
  refine x_if_eq C d_M_encode_9 hf (fun hf => ?_) (fun hf => ?_)
  · refine x_iconst C d_M_encode_50 (-1) ?_
    exact hR _ _ _ _ d_M_encode_51.1 hf trivial
  refine x_iload_n C d_M_encode_12 2 rfl ?_
  refine x_i2l C d_M_encode_13 ?_
  refine x_lconst C d_M_encode_14 0 ?_
  refine x_ldc2 C d_M_encode_15 wd1322 ?_
  refine x_csr C d_M_encode_18 wd1088 cm_M_in [.long (Int32.toInt64 p2), .long 0, .long 8] rfl rfl (by decide) (Nat.le_of_ble_eq_true rfl) hf (fun _ h => m_M_in h) (fun v2 hf hb_v2 => ?_)
  refine x_if_eq C d_M_encode_21 hf (fun hf => ?_) (fun hf => ?_)
  · refine x_iconst C d_M_encode_50 (-1) ?_
    exact hR _ _ _ _ d_M_encode_51.1 hf trivial
  refine x_iload_n C d_M_encode_24 3 rfl ?_
  refine x_if_lt C d_M_encode_25 hf (fun hf => ?_) (fun hf => ?_)
  · refine x_iconst C d_M_encode_50 (-1) ?_
    exact hR _ _ _ _ d_M_encode_51.1 hf trivial
  refine x_iload C d_M_encode_28 4 rfl ?_
  refine x_i2l C d_M_encode_30 ?_
  refine x_lconst C d_M_encode_31 0 ?_
  refine x_ldc2 C d_M_encode_32 wd1322 ?_
  refine x_csr C d_M_encode_35 wd1088 cm_M_in [.long (Int32.toInt64 p4), .long 0, .long 8] rfl rfl (by decide) (Nat.le_of_ble_eq_true rfl) hf (fun _ h => m_M_in h) (fun v3 hf hb_v3 => ?_)
  refine x_if_eq C d_M_encode_38 hf (fun hf => ?_) (fun hf => ?_)
  · refine x_iconst C d_M_encode_50 (-1) ?_
    exact hR _ _ _ _ d_M_encode_51.1 hf trivial
  refine x_iload_n C d_M_encode_41 2 rfl ?_
  refine x_iload C d_M_encode_42 4 rfl ?_
  refine x_imul C d_M_encode_44 ?_
  refine x_bipush C d_M_encode_45 31 ?_
  refine x_icmp_le C d_M_encode_47 hf (fun hf => ?_) (fun hf => ?_)
  · refine x_iconst C d_M_encode_50 (-1) ?_
    exact hR _ _ _ _ d_M_encode_51.1 hf trivial
  refine x_aload_n C d_M_encode_52 0 rfl ?_
  refine x_iload_n C d_M_encode_53 1 rfl ?_
  refine x_iload_n C d_M_encode_54 2 rfl ?_
  refine x_cvi C d_M_encode_55 wd1323 cm_M_findKept rfl rfl [.int p1, .int p2] rfl rfl (by decide) (Nat.le_of_ble_eq_true rfl) hf (fun _ _ h => m_M_findKept h) (fun v4 S5 hf hb_v4 => ?_)
  refine x_if_ne C d_M_encode_58 hf (fun hf => ?_) (fun hf => ?_)
  · refine x_bipush C d_M_encode_61 (-2) ?_
    exact hR _ _ _ _ d_M_encode_63.1 hf trivial
  refine x_aload_n C d_M_encode_64 0 rfl ?_
  refine x_cvr C d_M_encode_65 wd1327 cm_M_leastKept rfl rfl [] rfl rfl (by decide) (Nat.le_of_ble_eq_true rfl) hf (fun _ h => m_M_leastKept h) (fun v6 hf hb_v6 => ?_)
  refine x_istore C d_M_encode_68 [(5, .int v6), (0, .ref (w.1 0)), (1, .int p1), (2, .int p2), (3, .int p3), (4, .int p4)] (by rw [hnL]; decide) rfl ?_
  refine x_iload_n C d_M_encode_70 4 rfl ?_
  refine x_istore C d_M_encode_71 [(6, .int p3), (5, .int v6), (0, .ref (w.1 0)), (1, .int p1), (2, .int p2), (3, .int p3), (4, .int p4)] (by rw [hnL]; decide) rfl ?_
  refine x_iconst C d_M_encode_73 0 ?_
  refine x_istore C d_M_encode_74 [(7, .int 0), (6, .int p3), (5, .int v6), (0, .ref (w.1 0)), (1, .int p1), (2, .int p2), (3, .int p3), (4, .int p4)] (by rw [hnL]; decide) rfl ?_
  refine x_sub [3, 4, 5, 7, 2, 1, 0] rfl ?_
  exact w_M_encode_L76 hnL C hR  F v6 p3 0 hf
