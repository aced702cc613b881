set_option maxRecDepth 4000 in
theorem w_N_read_L121 {w : Ww} {l0 : Launch} {x : Cx} {F : Nat} {p1 : Int32} {p3 : Int32} {v4 : Int32} {v5 : Int32} {rs : (Int32 × St)} {k7 : St → Option (Int32 × St)} (hnL : x.2.2.2.2.2.2.2.2.2.2.2.2 = 9) (C : XC shN w "NeighbourWires" b_N_read l0 2 x) (hR : RI shN w b_N_read bzT rs x) (h3 : Int32.toNatClampNeg p1 < 4) (hk7 : ∀ (S8 : St), k7 S8 = some rs → WX shN w x S8 151 [(0, .ref (w.1 0)), (6, .int v4), (7, .int v5)] []) : ∀ (n : Nat) (S10 : St) (v11 : Int32), N_read_L121 F p1 p3 v4 v5 k7 n S10 v11 = some rs → WX shN w x S10 121 [(0, .ref (w.1 0)), (3, .int p3), (5, .ref (w.1 (22 + 2 * (Int32.toNatClampNeg p1)))), (6, .int v4), (7, .int v5), (8, .int v11)] [] := by
  intro n
  induction n with
  | zero => intro S10 v11 hf; cases hf
  | succ n ih =>
    intro S10 v11 hf
    rw [N_read_L121] at hf
    refine x_iload C d_N_read_121 5 rfl ?_
    refine x_iload C d_N_read_123 4 rfl ?_
    refine x_icmp_ge C d_N_read_125 hf (fun hf => ?_) (fun hf => ?_)
    · refine x_aload_n C d_N_read_128 0 rfl ?_
      refine x_getr C d_N_read_129 f_N_plan wd337 rfl rfl ?_
      refine x_aload C d_N_read_132 2 rfl ?_
      refine x_iload_n C d_N_read_134 1 rfl ?_
      refine x_iload C d_N_read_135 5 rfl ?_
      refine x_iadd C d_N_read_137 ?_
      refine x_cvr C d_N_read_138 wd946 cm_H_cell rfl (isH_of h3).1 [.int (p3 + v11)] rfl rfl (by decide) (Nat.le_of_ble_eq_true rfl) hf (fun _ h => m_H_cell (isH_of h3) h) (fun v12 hf hb_v12 => ?_)
      refine x_cvi C d_N_read_141 wd644 cm_P_append rfl rfl [.int v12] rfl rfl (by decide) (Nat.le_of_ble_eq_true rfl) hf (fun _ _ h => m_P_append isP1 h) (fun v13 S14 hf hb_v13 => ?_)
      refine x_pop C d_N_read_144 rfl ?_
      refine x_iinc C 1 d_N_read_145 5 rfl (by rw [hnL]; decide) hf (fun v15 => [(8, .int v15), (0, .ref (w.1 0)), (3, .int p3), (5, .ref (w.1 (22 + 2 * (Int32.toNatClampNeg p1)))), (6, .int v4), (7, .int v5)]) (fun _ => rfl) (fun v15 hf => ?_)
      refine x_goto C d_N_read_148 ?_
      refine x_sub [1, 2, 3, 4, 5, 0] rfl ?_
      exact ih S14 v15 hf
    refine x_sub [0, 3, 4] rfl ?_
    exact hk7 S10 hf
set_option maxRecDepth 4000 in
theorem w_N_read_L42 {w : Ww} {l0 : Launch} {x : Cx} {F : Nat} {p1 : Int32} {p2 : Int32} {p3 : Int32} {p4 : Int32} {S : St} {rs : (Int32 × St)} {J6 : Int32 → Int32 → Option (Int32 × St)} {k16 : Int32 → Int32 → Option (Int32 × St)} {k19 : Int32 → Option (Int32 × St)} (hnL : x.2.2.2.2.2.2.2.2.2.2.2.2 = 9) (C : XC shN w "NeighbourWires" b_N_read l0 2 x) (hR : RI shN w b_N_read bzT rs x) (h3 : Int32.toNatClampNeg p1 < 4) (hJ6 : ∀ (v4 : Int32) (v5 : Int32), J6 v4 v5 = some rs → WX shN w x S 118 [(0, .ref (w.1 0)), (3, .int p3), (5, .ref (w.1 (22 + 2 * (Int32.toNatClampNeg p1)))), (6, .int v4), (7, .int v5)] []) (hk16 : ∀ (v17 : Int32) (v18 : Int32), k16 v17 v18 = some rs → WX shN w x S 66 [(0, .ref (w.1 0)), (3, .int p3), (5, .ref (w.1 (22 + 2 * (Int32.toNatClampNeg p1)))), (6, .int v17), (7, .int v18)] []) (hk19 : ∀ (v20 : Int32), k19 v20 = some rs → WX shN w x S 88 [(7, .int v20)] []) : ∀ (n : Nat) (v21 : Int32) (v22 : Int32), N_read_L42 F p1 p2 p3 p4 S J6 k16 k19 n v21 v22 = some rs → WX shN w x S 42 [(0, .ref (w.1 0)), (2, .int p2), (3, .int p3), (4, .int p4), (5, .ref (w.1 (22 + 2 * (Int32.toNatClampNeg p1)))), (6, .int v21), (7, .int v22)] [] := by
  intro n
  induction n with
  | zero => intro v21 v22 hf; cases hf
  | succ n ih =>
    intro v21 v22 hf
    rw [N_read_L42] at hf
    refine x_iload C d_N_read_42 6 rfl ?_
    refine x_iload C d_N_read_44 3 rfl ?_
    refine x_icmp_ge C d_N_read_46 hf (fun hf => ?_) (fun hf => ?_)
    · refine x_aload C d_N_read_49 4 rfl ?_
      refine x_iload_n C d_N_read_51 1 rfl ?_
      refine x_iload_n C d_N_read_52 2 rfl ?_
      refine x_iload C d_N_read_53 6 rfl ?_
      refine x_iadd C d_N_read_55 ?_
      refine x_cvr C d_N_read_56 wd930 cm_H_faultAs rfl (isH_of h3).1 [.int p2, .int (p3 + v22)] rfl rfl (by decide) (Nat.le_of_ble_eq_true rfl) hf (fun _ h => m_H_faultAs (isH_of h3) h) (fun v23 hf hb_v23 => ?_)
      refine x_istore C d_N_read_59 [(6, .int v23), (0, .ref (w.1 0)), (2, .int p2), (3, .int p3), (4, .int p4), (5, .ref (w.1 (22 + 2 * (Int32.toNatClampNeg p1)))), (7, .int v22)] (by rw [hnL]; decide) rfl ?_
      refine x_iload C d_N_read_61 0 rfl ?_
      refine x_if_eq C d_N_read_63 hf (fun hf => ?_) (fun hf => ?_)
      · refine x_aload_n C d_N_read_69 1 rfl ?_
        refine x_getr C d_N_read_70 f_N_plan wd337 rfl rfl ?_
        refine x_aload C d_N_read_73 5 rfl ?_
        refine x_iload_n C d_N_read_75 3 rfl ?_
        refine x_iload C d_N_read_76 6 rfl ?_
        refine x_iadd C d_N_read_78 ?_
        refine x_cvr C d_N_read_79 wd946 cm_H_cell rfl (isH_of h3).1 [.int (p3 + v22)] rfl rfl (by decide) (Nat.le_of_ble_eq_true rfl) hf (fun _ h => m_H_cell (isH_of h3) h) (fun v24 hf hb_v24 => ?_)
        refine x_cvr C d_N_read_82 wd587 cm_P_isWord rfl rfl [.int v24] rfl rfl (by decide) (Nat.le_of_ble_eq_true rfl) hf (fun _ h => m_P_isWord isP1 h) (fun v25 hf hb_v25 => ?_)
        refine x_if_ne C d_N_read_85 hf (fun hf => ?_) (fun hf => ?_)
        · refine x_sub [6] rfl ?_
          exact hk19 v22 hf
        refine x_aload_n C d_N_read_94 1 rfl ?_
        refine x_getr C d_N_read_95 f_N_plan wd337 rfl rfl ?_
        refine x_get C d_N_read_98 f_P_length wd130 rfl rfl ?_
        refine x_iload C d_N_read_101 6 rfl ?_
        refine x_iadd C d_N_read_103 ?_
        refine x_bipush C d_N_read_104 40 ?_
        refine x_icmp_lt C d_N_read_106 hf (fun hf => ?_) (fun hf => ?_)
        · refine x_iinc C 1 d_N_read_112 6 rfl (by rw [hnL]; decide) hf (fun v26 => [(7, .int v26), (6, .int v23), (0, .ref (w.1 0)), (2, .int p2), (3, .int p3), (4, .int p4), (5, .ref (w.1 (22 + 2 * (Int32.toNatClampNeg p1))))]) (fun _ => rfl) (fun v26 hf => ?_)
          refine x_goto C d_N_read_115 ?_
          refine x_sub [2, 3, 4, 5, 6, 1, 0] rfl ?_
          exact ih v23 v26 hf
        refine x_bipush C d_N_read_109 (-3) ?_
        exact hR _ _ _ _ d_N_read_111.1 hf trivial
      refine x_sub [1, 3, 5, 0, 6] rfl ?_
      exact hk16 v23 v22 hf
    refine x_sub [0, 2, 4, 5, 6] rfl ?_
    exact hJ6 v21 v22 hf
set_option maxRecDepth 4000 in
theorem m_N_read {w : Ww} {l0 : Launch} {F : Nat} {S : St} {p1 : Int32} {p2 : Int32} {p3 : Int32} {p4 : Int32} {r : Int32} {S9 : St}  (hf : N_read F S p1 p2 p3 p4 = some (r, S9)) : MI shN w l0 y_N_read b_N_read 9 .int 2 [.ref (w.1 0), .int p1, .int p2, .int p3, .int p4] S r S9 bzT := by
  refine MI.of (by decide) (Nat.le_of_ble_eq_true rfl) rfl (fun _ _ => rfl) (fun x hnL C hR => ?_)
  rw [N_read] at hf
  refine x_iload_n C d_N_read_0 1 rfl ?_
  refine x_csr C d_N_read_1 wd916 cm_N_isSheet [.int p1] rfl rfl (by decide) (Nat.le_of_ble_eq_true rfl) hf (fun _ h => m_N_isSheet h) (fun v1 hf hb_v1 => ?_)
  refine x_if_eq C d_N_read_4 hf (fun hf => ?_) (fun hf => ?_)
  · refine x_iconst C d_N_read_26 (-1) ?_
    exact hR _ _ _ _ d_N_read_27.1 hf trivial
  refine x_iload_n C d_N_read_7 2 rfl ?_
  refine x_csr C d_N_read_8 wd919 cm_N_isLane [.int p2] rfl rfl (by decide) (Nat.le_of_ble_eq_true rfl) hf (fun _ h => m_N_isLane h) (fun v2 hf hb_v2 => ?_)
  refine x_if_eq C d_N_read_11 hf (fun hf => ?_) (fun hf => ?_)
  · refine x_iconst C d_N_read_26 (-1) ?_
    exact hR _ _ _ _ d_N_read_27.1 hf trivial
  refine x_iload C d_N_read_14 4 rfl ?_
  refine x_if_lt C d_N_read_16 hf (fun hf => ?_) (fun hf => ?_)
  · refine x_iconst C d_N_read_26 (-1) ?_
    exact hR _ _ _ _ d_N_read_27.1 hf trivial
  refine x_iload C d_N_read_19 4 rfl ?_
  refine x_bipush C d_N_read_21 40 ?_
  refine x_icmp_le C d_N_read_23 hf (fun hf => ?_) (fun hf => ?_)
  · refine x_iconst C d_N_read_26 (-1) ?_
    exact hR _ _ _ _ d_N_read_27.1 hf trivial
  refine x_aload_n C d_N_read_28 0 rfl ?_
  refine x_getr C d_N_read_29 f_N_sheets wd343 rfl rfl ?_
  refine x_iload_n C d_N_read_32 1 rfl ?_
  refine x_aald C (fun j => 22 + 2 * j) d_N_read_33 rfl (by decide) hf (fun h3 hf => ?_)
  refine x_astore C d_N_read_34 [(5, .ref (w.1 (22 + 2 * (Int32.toNatClampNeg p1)))), (0, .ref (w.1 0)), (1, .int p1), (2, .int p2), (3, .int p3), (4, .int p4)] (by rw [hnL]; decide) rfl ?_
  refine x_iconst C d_N_read_36 0 ?_
  refine x_istore C d_N_read_37 [(6, .int 0), (5, .ref (w.1 (22 + 2 * (Int32.toNatClampNeg p1)))), (0, .ref (w.1 0)), (1, .int p1), (2, .int p2), (3, .int p3), (4, .int p4)] (by rw [hnL]; decide) rfl ?_
  refine x_iconst C d_N_read_39 0 ?_
  refine x_istore C d_N_read_40 [(7, .int 0), (6, .int 0), (5, .ref (w.1 (22 + 2 * (Int32.toNatClampNeg p1)))), (0, .ref (w.1 0)), (1, .int p1), (2, .int p2), (3, .int p3), (4, .int p4)] (by rw [hnL]; decide) rfl ?_
  refine x_jn (fun J6 => ∀ (v4 : Int32) (v5 : Int32), J6 v4 v5 = some (r, S9) → WX shN w x S 118 [(0, .ref (w.1 0)), (3, .int p3), (5, .ref (w.1 (22 + 2 * (Int32.toNatClampNeg p1)))), (6, .int v4), (7, .int v5)] []) hf (fun v4 v5 hf => ?_) (fun J6 hJ6 hf => ?_)
  · refine x_iconst C d_N_read_118 0 ?_
    refine x_istore C d_N_read_119 [(8, .int 0), (0, .ref (w.1 0)), (3, .int p3), (5, .ref (w.1 (22 + 2 * (Int32.toNatClampNeg p1)))), (6, .int v4), (7, .int v5)] (by rw [hnL]; decide) rfl ?_
    refine x_sub [1, 2, 3, 4, 5, 0] rfl ?_
    refine w_N_read_L121 hnL C hR h3 (fun S8 hf => ?_) F S 0 hf
    refine x_aload_n C d_N_read_151 0 rfl ?_
    refine x_iload C d_N_read_152 1 rfl ?_
    refine x_put C d_N_read_154 f_N_torn wd344 rfl rfl hf (fun S9 hf => ?_)
    refine x_iload C d_N_read_157 2 rfl ?_
    exact hR _ _ _ _ d_N_read_159.1 hf trivial
  refine x_sub [3, 5, 6, 7, 2, 1, 0] rfl ?_
  refine w_N_read_L42 hnL C hR h3 hJ6 (fun v17 v18 hf => ?_) (fun v20 hf => ?_) F 0 0 hf
  · refine x_goto C d_N_read_66 ?_
    exact hJ6 v17 v18 hf
  refine x_bipush C d_N_read_88 (-20) ?_
  refine x_iload C d_N_read_90 0 rfl ?_
  refine x_isub C d_N_read_92 ?_
  exact hR _ _ _ _ d_N_read_93.1 hf trivial
set_option maxRecDepth 4000 in
theorem m_N_torn {w : Ww} {l0 : Launch} {F : Nat} {S : St} {rs : Int32}  (hf : N_torn F S = some rs) : MI shN w l0 y_N_torn b_N_torn 1 .int 0 [.ref (w.1 0)] S rs S bzT := by
  refine MI.of (by decide) (Nat.le_of_ble_eq_true rfl) rfl (fun _ _ => rfl) (fun x hnL C hR => ?_)
  rw [N_torn] at hf
  refine x_aload_n C d_N_torn_0 0 rfl ?_
  refine x_get C d_N_torn_1 f_N_torn wd344 rfl rfl ?_
  exact x_retR hR d_N_torn_4 hf trivial
set_option maxRecDepth 4000 in
theorem m_N_count {w : Ww} {l0 : Launch} {F : Nat} {S : St} {p1 : Int32} {rs : Int32}  (hf : N_count F S p1 = some rs) : MI shN w l0 y_N_count b_N_count 2 .int 1 [.ref (w.1 0), .int p1] S rs S bzT := by
  refine MI.of (by decide) (Nat.le_of_ble_eq_true rfl) rfl (fun _ _ => rfl) (fun x hnL C hR => ?_)
  rw [N_count] at hf
  refine x_iload_n C d_N_count_0 1 rfl ?_
  rcases x_ite hf with ⟨q1, hf⟩ | ⟨q1, hf⟩
  · refine x_tin C d_N_count_1 (k := 0) (t := 44) q1 (by decide) (by decide) rfl (by decide) ?_
    refine x_aload_n C d_N_count_44 0 rfl ?_
    refine x_getr C d_N_count_45 f_N_plan wd337 rfl rfl ?_
    refine x_get C d_N_count_48 f_P_wires wd113 rfl rfl ?_
    exact x_retR hR d_N_count_51 hf trivial
  rcases x_ite hf with ⟨q2, hf⟩ | ⟨q2, hf⟩
  · refine x_tin C d_N_count_1 (k := 1) (t := 52) q2 (by decide) (by decide) rfl (by decide) ?_
    refine x_aload_n C d_N_count_52 0 rfl ?_
    refine x_getr C d_N_count_53 f_N_plan wd337 rfl rfl ?_
    refine x_get C d_N_count_56 f_P_own wd118 rfl rfl ?_
    exact x_retR hR d_N_count_59 hf trivial
  rcases x_ite hf with ⟨q3, hf⟩ | ⟨q3, hf⟩
  · refine x_tin C d_N_count_1 (k := 2) (t := 60) q3 (by decide) (by decide) rfl (by decide) ?_
    refine x_aload_n C d_N_count_60 0 rfl ?_
    refine x_getr C d_N_count_61 f_N_plan wd337 rfl rfl ?_
    refine x_get C d_N_count_64 f_P_side wd123 rfl rfl ?_
    exact x_retR hR d_N_count_67 hf trivial
  rcases x_ite hf with ⟨q5, hf⟩ | ⟨q5, hf⟩
  · refine x_tin C d_N_count_1 (k := 3) (t := 68) q5 (by decide) (by decide) rfl (by decide) ?_
    refine x_aload_n C d_N_count_68 0 rfl ?_
    refine x_getr C d_N_count_69 f_N_plan wd337 rfl rfl ?_
    refine x_get C d_N_count_72 f_P_shields wd126 rfl rfl ?_
    refine x_csr C d_N_count_75 wd732 cm_Ji_bitCount [.int (S.1 1 3)] rfl rfl (by decide) (Nat.le_of_ble_eq_true rfl) hf (fun _ h => m_Ji_bitCount h) (fun v4 hf hb_v4 => ?_)
    exact x_retR hR d_N_count_78 hf trivial
  rcases x_ite hf with ⟨q6, hf⟩ | ⟨q6, hf⟩
  · refine x_tin C d_N_count_1 (k := 4) (t := 79) q6 (by decide) (by decide) rfl (by decide) ?_
    refine x_aload_n C d_N_count_79 0 rfl ?_
    refine x_getr C d_N_count_80 f_N_plan wd337 rfl rfl ?_
    refine x_get C d_N_count_83 f_P_length wd130 rfl rfl ?_
    exact x_retR hR d_N_count_86 hf trivial
  rcases x_ite hf with ⟨q7, hf⟩ | ⟨q7, hf⟩
  · refine x_tin C d_N_count_1 (k := 5) (t := 87) q7 (by decide) (by decide) rfl (by decide) ?_
    refine x_aload_n C d_N_count_87 0 rfl ?_
    refine x_getr C d_N_count_88 f_N_reader wd339 rfl rfl ?_
    refine x_getr C d_N_count_91 f_R_tape wd220 rfl rfl ?_
    refine x_get C d_N_count_94 f_T_size wd194 rfl rfl ?_
    exact x_retR hR d_N_count_97 hf trivial
  rcases x_ite hf with ⟨q11, hf⟩ | ⟨q11, hf⟩
  · refine x_tin C d_N_count_1 (k := 6) (t := 98) q11 (by decide) (by decide) rfl (by decide) ?_
    refine x_aload_n C d_N_count_98 0 rfl ?_
    refine x_getr C d_N_count_99 f_N_sheets wd343 rfl rfl ?_
    refine x_iconst C d_N_count_102 0 ?_
    refine x_aald C (fun j => 22 + 2 * j) d_N_count_103 rfl (by decide) hf (fun h8 hf => ?_)
    refine x_cvr C d_N_count_104 wd958 cm_H_isNothing rfl (isH_of h8).1 [] rfl rfl (by decide) (Nat.le_of_ble_eq_true rfl) hf (fun _ h => m_H_isNothing (isH_of h8) h) (fun v9 hf hb_v9 => ?_)
    refine x_if_eq C d_N_count_107 hf (fun hf => ?_) (fun hf => ?_)
    · refine x_aload_n C d_N_count_115 0 rfl ?_
      refine x_getr C d_N_count_116 f_N_sheets wd343 rfl rfl ?_
      refine x_iconst C d_N_count_119 0 ?_
      refine x_aald C (fun j => 22 + 2 * j) d_N_count_120 rfl (by decide) hf (fun h10 hf => ?_)
      refine x_get C d_N_count_121 f_H_size wd328 (isH_of h10).1 rfl ?_
      exact x_retR hR d_N_count_124 hf trivial
    refine x_bipush C d_N_count_110 (-4) ?_
    refine x_goto C d_N_count_112 ?_
    exact x_retR hR d_N_count_124 hf trivial
  refine x_tout C d_N_count_1 (t := 125) (by have tq1 := lv_neT q1 (a := 0) (by decide); have tq2 := lv_neT q2 (a := 1) (by decide); have tq3 := lv_neT q3 (a := 2) (by decide); have tq5 := lv_neT q5 (a := 3) (by decide); have tq6 := lv_neT q6 (a := 4) (by decide); have tq7 := lv_neT q7 (a := 5) (by decide); have tq11 := lv_neT q11 (a := 6) (by decide); omega) (by decide) ?_
  refine x_iconst C d_N_count_125 (-1) ?_
  exact x_retR hR d_N_count_126 hf trivial
