set_option maxRecDepth 4000 in
theorem m_R_take {w : Ww} {l0 : Launch} {F : Nat} {S : St} {p1 : Int32} {p2 : Int32} {p3 : Int32} {r : Int32} {S9 : St}  (hf : R_take F S p1 p2 p3 = some (r, S9)) : MI shN w l0 y_R_take b_R_take 4 .int 3 [.ref (w.1 6), .int p1, .int p2, .int p3] S r S9 bzT := by
  refine MI.of (by decide) (Nat.le_of_ble_eq_true rfl) rfl (fun _ _ => rfl) (fun x hnL C hR => ?_)
  rw [R_take] at hf
  refine x_iload_n C d_R_take_0 1 rfl ?_
  rcases x_ite hf with ⟨q3, hf⟩ | ⟨q3, hf⟩
  · refine x_tin C d_R_take_1 (k := 1) (t := 36) q3 (by decide) (by decide) rfl (by decide) ?_
    refine x_aload_n C d_R_take_36 0 rfl ?_
    refine x_iload_n C d_R_take_37 3 rfl ?_
    refine x_cvi C d_R_take_38 wd494 cm_R_takeWires rfl rfl [.int p3] rfl rfl (by decide) (Nat.le_of_ble_eq_true rfl) hf (fun _ _ h => m_R_takeWires h) (fun v1 S2 hf hb_v1 => ?_)
    exact hR _ _ _ _ d_R_take_41.1 hf trivial
  rcases x_ite hf with ⟨q5, hf⟩ | ⟨q5, hf⟩
  · refine x_tin C d_R_take_1 (k := 2) (t := 42) q5 (by decide) (by decide) rfl (by decide) ?_
    refine x_aload_n C d_R_take_42 0 rfl ?_
    refine x_getr C d_R_take_43 f_R_told wd221 rfl rfl ?_
    refine x_iload_n C d_R_take_46 3 rfl ?_
    refine x_put C d_R_take_47 f_P_own wd117 rfl rfl hf (fun S4 hf => ?_)
    refine x_iload_n C d_R_take_50 3 rfl ?_
    refine x_bipush C d_R_take_51 99 ?_
    refine x_icmp_le C d_R_take_53 hf (fun hf => ?_) (fun hf => ?_)
    · refine x_iconst C d_R_take_56 3 ?_
      refine x_goto C d_R_take_57 ?_
      exact hR _ _ _ _ d_R_take_61.1 hf trivial
    refine x_iconst C d_R_take_60 0 ?_
    exact hR _ _ _ _ d_R_take_61.1 hf trivial
  rcases x_ite hf with ⟨q7, hf⟩ | ⟨q7, hf⟩
  · refine x_tin C d_R_take_1 (k := 3) (t := 62) q7 (by decide) (by decide) rfl (by decide) ?_
    refine x_aload_n C d_R_take_62 0 rfl ?_
    refine x_getr C d_R_take_63 f_R_told wd221 rfl rfl ?_
    refine x_iload_n C d_R_take_66 3 rfl ?_
    refine x_put C d_R_take_67 f_P_side wd122 rfl rfl hf (fun S6 hf => ?_)
    refine x_iload_n C d_R_take_70 3 rfl ?_
    refine x_bipush C d_R_take_71 99 ?_
    refine x_icmp_le C d_R_take_73 hf (fun hf => ?_) (fun hf => ?_)
    · refine x_iconst C d_R_take_76 3 ?_
      refine x_goto C d_R_take_77 ?_
      exact hR _ _ _ _ d_R_take_81.1 hf trivial
    refine x_iconst C d_R_take_80 0 ?_
    exact hR _ _ _ _ d_R_take_81.1 hf trivial
  rcases x_ite hf with ⟨q10, hf⟩ | ⟨q10, hf⟩
  · refine x_tin C d_R_take_1 (k := 4) (t := 82) q10 (by decide) (by decide) rfl (by decide) ?_
    refine x_aload_n C d_R_take_82 0 rfl ?_
    refine x_iload_n C d_R_take_83 3 rfl ?_
    refine x_cvi C d_R_take_84 wd498 cm_R_takeShield rfl rfl [.int p3] rfl rfl (by decide) (Nat.le_of_ble_eq_true rfl) hf (fun _ _ h => m_R_takeShield h) (fun v8 S9 hf hb_v8 => ?_)
    exact hR _ _ _ _ d_R_take_87.1 hf trivial
  rcases x_ite hf with ⟨q13, hf⟩ | ⟨q13, hf⟩
  · refine x_tin C d_R_take_1 (k := 5) (t := 88) q13 (by decide) (by decide) rfl (by decide) ?_
    refine x_aload_n C d_R_take_88 0 rfl ?_
    refine x_iload_n C d_R_take_89 3 rfl ?_
    refine x_cvi C d_R_take_90 wd515 cm_R_takeWord rfl rfl [.int p3] rfl rfl (by decide) (Nat.le_of_ble_eq_true rfl) hf (fun _ _ h => m_R_takeWord h) (fun v11 S12 hf hb_v11 => ?_)
    exact hR _ _ _ _ d_R_take_93.1 hf trivial
  refine x_tout C d_R_take_1 (t := 94) (by have tq3 := lv_neT q3 (a := 1) (by decide); have tq5 := lv_neT q5 (a := 2) (by decide); have tq7 := lv_neT q7 (a := 3) (by decide); have tq10 := lv_neT q10 (a := 4) (by decide); have tq13 := lv_neT q13 (a := 5) (by decide); omega) (by decide) ?_
  refine x_aload_n C d_R_take_94 0 rfl ?_
  refine x_iload_n C d_R_take_95 2 rfl ?_
  refine x_iload_n C d_R_take_96 3 rfl ?_
  refine x_cvi C d_R_take_97 wd531 cm_R_takeStep rfl rfl [.int p2, .int p3] rfl rfl (by decide) (Nat.le_of_ble_eq_true rfl) hf (fun _ _ h => m_R_takeStep h) (fun v14 S15 hf hb_v14 => ?_)
  exact hR _ _ _ _ d_R_take_100.1 hf trivial
set_option maxRecDepth 4000 in
theorem w_R_readLine_L48 {w : Ww} {l0 : Launch} {x : Cx} {F : Nat} {v1 : Int32} {rs : (Int32 × St)}  (hnL : x.2.2.2.2.2.2.2.2.2.2.2.2 = 5) (C : XC shN w "NeighbourWires$Reader" b_R_readLine l0 8 x) (hR : RI shN w b_R_readLine bzT rs x)   : ∀ (n : Nat) (S4 : St) (v5 : Int32), R_readLine_L48 F v1 n S4 v5 = some rs → WX shN w x S4 48 [(0, .ref (w.1 6)), (1, .int v1), (2, .int v5)] [] := by
  intro n
  induction n with
  | zero => intro S4 v5 hf; cases hf
  | succ n ih =>
    intro S4 v5 hf
    rw [R_readLine_L48] at hf
    refine x_iload_n C d_R_readLine_48 2 rfl ?_
    refine x_sipush C d_R_readLine_49 240 ?_
    refine x_icmp_gt C d_R_readLine_52 hf (fun hf => ?_) (fun hf => ?_)
    · refine x_iconst C d_R_readLine_148 2 ?_
      exact hR _ _ _ _ d_R_readLine_149.1 hf trivial
    refine x_aload_n C d_R_readLine_55 0 rfl ?_
    refine x_getr C d_R_readLine_56 f_R_tape wd219 rfl rfl ?_
    refine x_cvv C d_R_readLine_59 wd391 cm_T_next rfl rfl [] rfl rfl (by decide) (Nat.le_of_ble_eq_true rfl) hf (fun _ h => m_T_next h) (fun S6 hf => ?_)
    refine x_aload_n C d_R_readLine_62 0 rfl ?_
    refine x_getr C d_R_readLine_63 f_R_tape wd219 rfl rfl ?_
    refine x_get C d_R_readLine_66 f_T_kind wd195 rfl rfl ?_
    refine x_iconst C d_R_readLine_69 3 ?_
    refine x_jn (fun J7 => J7  = some rs → WX shN w x S6 83 [(0, .ref (w.1 6)), (1, .int v1), (2, .int v5)] []) hf (fun hf => ?_) (fun J7 hJ7 hf => ?_)
    · refine x_aload_n C d_R_readLine_83 0 rfl ?_
      refine x_getr C d_R_readLine_84 f_R_tape wd219 rfl rfl ?_
      refine x_get C d_R_readLine_87 f_T_kind wd195 rfl rfl ?_
      refine x_iconst C d_R_readLine_90 2 ?_
      refine x_jn (fun J9 => ∀ (v8 : Int32), J9 v8 = some rs → WX shN w x S6 107 [(0, .ref (w.1 6)), (1, .int v1), (2, .int v5)] [.int v8]) hf (fun v8 hf => ?_) (fun J9 hJ9 hf => ?_)
      · refine x_istore_n C d_R_readLine_107 [(3, .int v8), (0, .ref (w.1 6)), (1, .int v1), (2, .int v5)] (by rw [hnL]; decide) rfl ?_
        refine x_iload_n C d_R_readLine_108 0 rfl ?_
        refine x_jn (fun J12 => ∀ (S10 : St) (v11 : Int32), J12 S10 v11 = some rs → WX shN w x S10 132 [(0, .ref (w.1 6)), (1, .int v1), (2, .int v5)] [.int v11]) hf (fun S10 v11 hf => ?_) (fun J12 hJ12 hf => ?_)
        · refine x_istore C d_R_readLine_132 [(4, .int v11), (0, .ref (w.1 6)), (1, .int v1), (2, .int v5)] (by rw [hnL]; decide) rfl ?_
          refine x_iload C d_R_readLine_134 0 rfl ?_
          refine x_if_eq C d_R_readLine_136 hf (fun hf => ?_) (fun hf => ?_)
          · refine x_iinc C 1 d_R_readLine_142 3 rfl (by rw [hnL]; decide) hf (fun v13 => [(2, .int v13), (4, .int v11), (0, .ref (w.1 6)), (1, .int v1)]) (fun _ => rfl) (fun v13 hf => ?_)
            refine x_goto C d_R_readLine_145 ?_
            refine x_sub [2, 3, 0] rfl ?_
            exact ih S10 v13 hf
          refine x_iload C d_R_readLine_139 0 rfl ?_
          exact hR _ _ _ _ d_R_readLine_141.1 hf trivial
        refine x_if_eq C d_R_readLine_109 hf (fun hf => ?_) (fun hf => ?_)
        · refine x_aload_n C d_R_readLine_128 1 rfl ?_
          refine x_cvr C d_R_readLine_129 wd476 cm_R_outOfPlace rfl rfl [] rfl rfl (by decide) (Nat.le_of_ble_eq_true rfl) hf (fun _ h => m_R_outOfPlace h) (fun v14 hf hb_v14 => ?_)
          refine x_sub [1, 2, 3] rfl ?_
          exact hJ12 S6 v14 hf
        refine x_aload_n C d_R_readLine_112 1 rfl ?_
        refine x_iload_n C d_R_readLine_113 2 rfl ?_
        refine x_iload_n C d_R_readLine_114 3 rfl ?_
        refine x_aload_n C d_R_readLine_115 1 rfl ?_
        refine x_getr C d_R_readLine_116 f_R_tape wd219 rfl rfl ?_
        refine x_get C d_R_readLine_119 f_T_value wd199 rfl rfl ?_
        refine x_cvi C d_R_readLine_122 wd490 cm_R_take rfl rfl [.int v1, .int v5, .int (S6.1 7 3)] rfl rfl (by decide) (Nat.le_of_ble_eq_true rfl) hf (fun _ _ h => m_R_take h) (fun v15 S16 hf hb_v15 => ?_)
        refine x_goto C d_R_readLine_125 ?_
        refine x_sub [1, 2, 3] rfl ?_
        exact hJ12 S16 v15 hf
      refine x_jn (fun J17 => J17  = some rs → WX shN w x S6 106 [(0, .ref (w.1 6)), (1, .int v1), (2, .int v5)] []) hf (fun hf => ?_) (fun J17 hJ17 hf => ?_)
      · refine x_iconst C d_R_readLine_106 0 ?_
        exact hJ9 0 hf
      refine x_icmp_ne C d_R_readLine_91 hf (fun hf => ?_) (fun hf => ?_)
      · refine x_iload_n C d_R_readLine_94 2 rfl ?_
        refine x_iload_n C d_R_readLine_95 1 rfl ?_
        refine x_csr C d_R_readLine_96 wd487 cm_R_mostNumbers [.int v1] rfl rfl (by decide) (Nat.le_of_ble_eq_true rfl) hf (fun _ h => m_R_mostNumbers h) (fun v18 hf hb_v18 => ?_)
        refine x_icmp_ge C d_R_readLine_99 hf (fun hf => ?_) (fun hf => ?_)
        · refine x_iconst C d_R_readLine_102 1 ?_
          refine x_goto C d_R_readLine_103 ?_
          exact hJ9 1 hf
        exact hJ17  hf
      exact hJ17  hf
    refine x_icmp_ne C d_R_readLine_70 hf (fun hf => ?_) (fun hf => ?_)
    · refine x_iload_n C d_R_readLine_73 2 rfl ?_
      refine x_iload_n C d_R_readLine_74 1 rfl ?_
      refine x_csr C d_R_readLine_75 wd484 cm_R_fewestNumbers [.int v1] rfl rfl (by decide) (Nat.le_of_ble_eq_true rfl) hf (fun _ h => m_R_fewestNumbers h) (fun v19 hf hb_v19 => ?_)
      refine x_icmp_lt C d_R_readLine_78 hf (fun hf => ?_) (fun hf => ?_)
      · exact hJ7  hf
      refine x_iconst C d_R_readLine_81 0 ?_
      exact hR _ _ _ _ d_R_readLine_82.1 hf trivial
    exact hJ7  hf
set_option maxRecDepth 4000 in
theorem m_R_readLine {w : Ww} {l0 : Launch} {F : Nat} {S : St} {r : Int32} {S9 : St}  (hf : R_readLine F S = some (r, S9)) : MI shN w l0 y_R_readLine b_R_readLine 5 .int 8 [.ref (w.1 6)] S r S9 bzT := by
  refine MI.of (by decide) (Nat.le_of_ble_eq_true rfl) rfl (fun _ _ => rfl) (fun x hnL C hR => ?_)
  rw [R_readLine] at hf
  refine x_aload_n C d_R_readLine_0 0 rfl ?_
  refine x_getr C d_R_readLine_1 f_R_tape wd219 rfl rfl ?_
  refine x_get C d_R_readLine_4 f_T_kind wd195 rfl rfl ?_
  refine x_iconst C d_R_readLine_7 1 ?_
  refine x_icmp_eq C d_R_readLine_8 hf (fun hf => ?_) (fun hf => ?_)
  · refine x_aload_n C d_R_readLine_16 0 rfl ?_
    refine x_getr C d_R_readLine_17 f_R_tape wd219 rfl rfl ?_
    refine x_get C d_R_readLine_20 f_T_value wd199 rfl rfl ?_
    refine x_bi hf (fun v1 hf => ?_)
    refine x_istore_n C d_R_readLine_23 [(1, .int v1), (0, .ref (w.1 6))] (by rw [hnL]; decide) rfl ?_
    refine x_aload_n C d_R_readLine_24 1 rfl ?_
    refine x_iload_n C d_R_readLine_25 0 rfl ?_
    refine x_cvr C d_R_readLine_26 wd480 cm_R_isToldAgain rfl rfl [.int v1] rfl rfl (by decide) (Nat.le_of_ble_eq_true rfl) hf (fun _ h => m_R_isToldAgain h) (fun v2 hf hb_v2 => ?_)
    refine x_if_eq C d_R_readLine_29 hf (fun hf => ?_) (fun hf => ?_)
    · refine x_aload_n C d_R_readLine_34 1 rfl ?_
      refine x_dup C d_R_readLine_35 rfl ?_
      refine x_get C d_R_readLine_36 f_R_namesTold wd225 rfl rfl ?_
      refine x_iconst C d_R_readLine_39 1 ?_
      refine x_iload_n C d_R_readLine_40 0 rfl ?_
      refine x_ishl C d_R_readLine_41 ?_
      refine x_ior C d_R_readLine_42 ?_
      refine x_put C d_R_readLine_43 f_R_namesTold wd225 rfl rfl hf (fun S3 hf => ?_)
      refine x_iconst C d_R_readLine_46 0 ?_
      refine x_istore_n C d_R_readLine_47 [(2, .int 0), (1, .int v1), (0, .ref (w.1 6))] (by rw [hnL]; decide) rfl ?_
      refine x_sub [2, 1, 0] rfl ?_
      exact w_R_readLine_L48 hnL C hR  F S3 0 hf
    refine x_iconst C d_R_readLine_32 4 ?_
    exact hR _ _ _ _ d_R_readLine_33.1 hf trivial
  refine x_aload_n C d_R_readLine_11 0 rfl ?_
  refine x_cvr C d_R_readLine_12 wd476 cm_R_outOfPlace rfl rfl [] rfl rfl (by decide) (Nat.le_of_ble_eq_true rfl) hf (fun _ h => m_R_outOfPlace h) (fun v20 hf hb_v20 => ?_)
  exact hR _ _ _ _ d_R_readLine_15.1 hf trivial
set_option maxRecDepth 4000 in
theorem w_R_readText_L26 {w : Ww} {l0 : Launch} {x : Cx} {F : Nat}  {rs : (Int32 × St)} {J6 : St → Option (Int32 × St)} {k7 : St → Option (Int32 × St)} (hnL : x.2.2.2.2.2.2.2.2.2.2.2.2 = 2) (C : XC shN w "NeighbourWires$Reader" b_R_readText l0 9 x) (hR : RI shN w b_R_readText bzT rs x)  (hJ6 : ∀ (S5 : St), J6 S5 = some rs → WX shN w x S5 76 [(0, .ref (w.1 6))] []) (hk7 : ∀ (S8 : St), k7 S8 = some rs → WX shN w x S8 67 [(0, .ref (w.1 6))] []) : ∀ (n : Nat) (S9 : St) (v10 : Int32), R_readText_L26 F J6 k7 n S9 v10 = some rs → WX shN w x S9 26 [(0, .ref (w.1 6)), (1, .int v10)] [] := by
  intro n
  induction n with
  | zero => intro S9 v10 hf; cases hf
  | succ n ih =>
    intro S9 v10 hf
    rw [R_readText_L26] at hf
    refine x_iload_n C d_R_readText_26 1 rfl ?_
    refine x_sipush C d_R_readText_27 240 ?_
    refine x_icmp_gt C d_R_readText_30 hf (fun hf => ?_) (fun hf => ?_)
    · refine x_sub [0] rfl ?_
      exact hJ6 S9 hf
    refine x_aload_n C d_R_readText_33 0 rfl ?_
    refine x_getr C d_R_readText_34 f_R_tape wd219 rfl rfl ?_
    refine x_cvv C d_R_readText_37 wd391 cm_T_next rfl rfl [] rfl rfl (by decide) (Nat.le_of_ble_eq_true rfl) hf (fun _ h => m_T_next h) (fun S11 hf => ?_)
    refine x_aload_n C d_R_readText_40 0 rfl ?_
    refine x_getr C d_R_readText_41 f_R_tape wd219 rfl rfl ?_
    refine x_get C d_R_readText_44 f_T_kind wd195 rfl rfl ?_
    refine x_if_ne C d_R_readText_47 hf (fun hf => ?_) (fun hf => ?_)
    · refine x_iload_n C d_R_readText_50 1 rfl ?_
      exact hR _ _ _ _ d_R_readText_51.1 hf trivial
    refine x_aload_n C d_R_readText_52 0 rfl ?_
    refine x_aload_n C d_R_readText_53 0 rfl ?_
    refine x_cvi C d_R_readText_54 wd472 cm_R_readLine rfl rfl [] rfl rfl (by decide) (Nat.le_of_ble_eq_true rfl) hf (fun _ _ h => m_R_readLine h) (fun v12 S13 hf hb_v12 => ?_)
    refine x_put C d_R_readText_57 f_R_fault wd223 rfl rfl hf (fun S14 hf => ?_)
    refine x_aload_n C d_R_readText_60 0 rfl ?_
    refine x_get C d_R_readText_61 f_R_fault wd223 rfl rfl ?_
    refine x_if_eq C d_R_readText_64 hf (fun hf => ?_) (fun hf => ?_)
    · refine x_iinc C 1 d_R_readText_70 1 rfl (by rw [hnL]; decide) hf (fun v15 => [(1, .int v15), (0, .ref (w.1 6))]) (fun _ => rfl) (fun v15 hf => ?_)
      refine x_goto C d_R_readText_73 ?_
      refine x_sub [1, 0] rfl ?_
      exact ih S14 v15 hf
    refine x_sub [0] rfl ?_
    exact hk7 S14 hf
set_option maxRecDepth 4000 in
theorem m_R_readText {w : Ww} {l0 : Launch} {F : Nat} {S : St} {r : Int32} {S9 : St}  (hf : R_readText F S = some (r, S9)) : MI shN w l0 y_R_readText b_R_readText 2 .int 9 [.ref (w.1 6)] S r S9 bzT := by
  refine MI.of (by decide) (Nat.le_of_ble_eq_true rfl) rfl (fun _ _ => rfl) (fun x hnL C hR => ?_)
  rw [R_readText] at hf
  refine x_aload_n C d_R_readText_0 0 rfl ?_
  refine x_getr C d_R_readText_1 f_R_told wd221 rfl rfl ?_
  refine x_cvv C d_R_readText_4 wd386 cm_P_reset rfl rfl [] rfl rfl (by decide) (Nat.le_of_ble_eq_true rfl) hf (fun _ h => m_P_reset isP9 h) (fun S1 hf => ?_)
  refine x_aload_n C d_R_readText_7 0 rfl ?_
  refine x_getr C d_R_readText_8 f_R_tape wd219 rfl rfl ?_
  refine x_cvv C d_R_readText_11 wd387 cm_T_rewind rfl rfl [] rfl rfl (by decide) (Nat.le_of_ble_eq_true rfl) hf (fun _ h => m_T_rewind h) (fun S2 hf => ?_)
  refine x_aload_n C d_R_readText_14 0 rfl ?_
  refine x_iconst C d_R_readText_15 0 ?_
  refine x_put C d_R_readText_16 f_R_fault wd223 rfl rfl hf (fun S3 hf => ?_)
  refine x_aload_n C d_R_readText_19 0 rfl ?_
  refine x_iconst C d_R_readText_20 0 ?_
  refine x_put C d_R_readText_21 f_R_namesTold wd225 rfl rfl hf (fun S4 hf => ?_)
  refine x_iconst C d_R_readText_24 0 ?_
  refine x_istore_n C d_R_readText_25 [(1, .int 0), (0, .ref (w.1 6))] (by rw [hnL]; decide) rfl ?_
  refine x_jn (fun J6 => ∀ (S5 : St), J6 S5 = some (r, S9) → WX shN w x S5 76 [(0, .ref (w.1 6))] []) hf (fun S5 hf => ?_) (fun J6 hJ6 hf => ?_)
  · refine x_bipush C d_R_readText_76 (-10) ?_
    refine x_aload_n C d_R_readText_78 0 rfl ?_
    refine x_getr C d_R_readText_79 f_R_tape wd219 rfl rfl ?_
    refine x_get C d_R_readText_82 f_T_start wd197 rfl rfl ?_
    refine x_isub C d_R_readText_85 ?_
    exact hR _ _ _ _ d_R_readText_86.1 hf trivial
  refine x_sub [1, 0] rfl ?_
  refine w_R_readText_L26 hnL C hR hJ6 (fun S8 hf => ?_) F S4 0 hf
  refine x_goto C d_R_readText_67 ?_
  exact hJ6 S8 hf
set_option maxRecDepth 4000 in
theorem m_P_copy {w : Ww} {l0 : Launch} {F : Nat} {P : Nat} {Q : Nat} {S : St} {rs : St} (hP : isP P) (hQ : isP Q) (hf : P_copy F P Q S = some rs) : MV shN w l0 y_P_copy b_P_copy 2 1 [.ref (w.1 P), .ref (w.1 Q)] S rs := by
  refine MV.of (by decide) (Nat.le_of_ble_eq_true rfl) rfl (fun x hnL C hR => ?_)
  rw [P_copy] at hf
  refine x_aload_n C d_P_copy_0 0 rfl ?_
  refine x_aload_n C d_P_copy_1 1 rfl ?_
  refine x_get C d_P_copy_2 f_P_wires wd109 hQ.1 rfl ?_
  refine x_put C d_P_copy_5 f_P_wires wd109 hP.1 rfl hf (fun S1 hf => ?_)
  refine x_aload_n C d_P_copy_8 0 rfl ?_
  refine x_aload_n C d_P_copy_9 1 rfl ?_
  refine x_get C d_P_copy_10 f_P_own wd114 hQ.1 rfl ?_
  refine x_put C d_P_copy_13 f_P_own wd114 hP.1 rfl hf (fun S2 hf => ?_)
  refine x_aload_n C d_P_copy_16 0 rfl ?_
  refine x_aload_n C d_P_copy_17 1 rfl ?_
  refine x_get C d_P_copy_18 f_P_side wd119 hQ.1 rfl ?_
  refine x_put C d_P_copy_21 f_P_side wd119 hP.1 rfl hf (fun S3 hf => ?_)
  refine x_aload_n C d_P_copy_24 0 rfl ?_
  refine x_aload_n C d_P_copy_25 1 rfl ?_
  refine x_get C d_P_copy_26 f_P_shields wd124 hQ.1 rfl ?_
  refine x_put C d_P_copy_29 f_P_shields wd124 hP.1 rfl hf (fun S4 hf => ?_)
  refine x_aload_n C d_P_copy_32 0 rfl ?_
  refine x_aload_n C d_P_copy_33 1 rfl ?_
  refine x_get C d_P_copy_34 f_P_length wd127 hQ.1 rfl ?_
  refine x_put C d_P_copy_37 f_P_length wd127 hP.1 rfl hf (fun S5 hf => ?_)
  refine x_aload_n C d_P_copy_40 1 rfl ?_
  refine x_getr C d_P_copy_41 f_P_wireAt wd132 hQ.1 rfl ?_
  refine x_iconst C d_P_copy_44 0 ?_
  refine x_aload_n C d_P_copy_45 0 rfl ?_
  refine x_getr C d_P_copy_46 f_P_wireAt wd132 hP.1 rfl ?_
  refine x_iconst C d_P_copy_49 0 ?_
  refine x_bipush C d_P_copy_50 8 ?_
  refine x_copyi C d_P_copy_52 wd544 ⟨wd546, wd545, wd87⟩ hQ.2.1 hP.2.1 (by decide) (by decide) (Nat.le_of_ble_eq_true rfl) hf (fun S6 hf => ?_)
  refine x_aload_n C d_P_copy_55 1 rfl ?_
  refine x_getr C d_P_copy_56 f_P_row wd133 hQ.1 rfl ?_
  refine x_iconst C d_P_copy_59 0 ?_
  refine x_aload_n C d_P_copy_60 0 rfl ?_
  refine x_getr C d_P_copy_61 f_P_row wd133 hP.1 rfl ?_
  refine x_iconst C d_P_copy_64 0 ?_
  refine x_bipush C d_P_copy_65 40 ?_
  refine x_copyi C d_P_copy_67 wd544 ⟨wd546, wd545, wd87⟩ hQ.2.2.1 hP.2.2.1 (by decide) (by decide) (Nat.le_of_ble_eq_true rfl) hf (fun S7 hf => ?_)
  exact hR _ _ _ d_P_copy_70.1 hf
set_option maxRecDepth 4000 in
theorem m_N_text {w : Ww} {l0 : Launch} {F : Nat} {S : St} {r : Int32} {S9 : St}  (hf : N_text F S = some (r, S9)) : MI shN w l0 y_N_text b_N_text 2 .int 10 [.ref (w.1 0)] S r S9 bzT := by
  refine MI.of (by decide) (Nat.le_of_ble_eq_true rfl) rfl (fun _ _ => rfl) (fun x hnL C hR => ?_)
  rw [N_text] at hf
  refine x_aload_n C d_N_text_0 0 rfl ?_
  refine x_getr C d_N_text_1 f_N_reader wd339 rfl rfl ?_
  refine x_cvi C d_N_text_4 wd382 cm_R_readText rfl rfl [] rfl rfl (by decide) (Nat.le_of_ble_eq_true rfl) hf (fun _ _ h => m_R_readText h) (fun v1 S2 hf hb_v1 => ?_)
  refine x_istore_n C d_N_text_7 [(1, .int v1), (0, .ref (w.1 0))] (by rw [hnL]; decide) rfl ?_
  refine x_iload_n C d_N_text_8 0 rfl ?_
  refine x_jn (fun J4 => ∀ (S3 : St), J4 S3 = some (r, S9) → WX shN w x S3 26 [(0, .ref (w.1 0)), (1, .int v1)] []) hf (fun S3 hf => ?_) (fun J4 hJ4 hf => ?_)
  · refine x_aload_n C d_N_text_26 0 rfl ?_
    refine x_getr C d_N_text_27 f_N_reader wd339 rfl rfl ?_
    refine x_getr C d_N_text_30 f_R_tape wd220 rfl rfl ?_
    refine x_iconst C d_N_text_33 0 ?_
    refine x_cvi C d_N_text_34 wd374 cm_T_cut rfl rfl [.int 0] rfl rfl (by decide) (Nat.le_of_ble_eq_true rfl) hf (fun _ _ h => m_T_cut h) (fun v5 S6 hf hb_v5 => ?_)
    refine x_pop C d_N_text_37 rfl ?_
    refine x_iload_n C d_N_text_38 1 rfl ?_
    exact hR _ _ _ _ d_N_text_39.1 hf trivial
  refine x_if_lt C d_N_text_9 hf (fun hf => ?_) (fun hf => ?_)
  · refine x_sub [1, 0] rfl ?_
    exact hJ4 S2 hf
  refine x_aload_n C d_N_text_12 1 rfl ?_
  refine x_getr C d_N_text_13 f_N_plan wd337 rfl rfl ?_
  refine x_aload_n C d_N_text_16 1 rfl ?_
  refine x_getr C d_N_text_17 f_N_reader wd339 rfl rfl ?_
  refine x_getr C d_N_text_20 f_R_told wd222 rfl rfl ?_
  refine x_cvv C d_N_text_23 wd540 cm_P_copy rfl rfl [.ref (w.1 9)] rfl rfl (by decide) (Nat.le_of_ble_eq_true rfl) hf (fun _ h => m_P_copy isP1 isP9 h) (fun S7 hf => ?_)
  refine x_sub [1, 0] rfl ?_
  exact hJ4 S7 hf
set_option maxRecDepth 4000 in
theorem m_N_fault {w : Ww} {l0 : Launch} {F : Nat} {S : St} {rs : Int32}  (hf : N_fault F S = some rs) : MI shN w l0 y_N_fault b_N_fault 1 .int 0 [.ref (w.1 0)] S rs S bzT := by
  refine MI.of (by decide) (Nat.le_of_ble_eq_true rfl) rfl (fun _ _ => rfl) (fun x hnL C hR => ?_)
  rw [N_fault] at hf
  refine x_aload_n C d_N_fault_0 0 rfl ?_
  refine x_getr C d_N_fault_1 f_N_reader wd339 rfl rfl ?_
  refine x_get C d_N_fault_4 f_R_fault wd224 rfl rfl ?_
  exact x_retR hR d_N_fault_7 hf trivial
set_option maxRecDepth 4000 in
theorem m_P_isWire {w : Ww} {l0 : Launch} {F : Nat} {P : Nat} {S : St} {p1 : Int32} {rs : Int32} (hP : isP P) (hf : P_isWire F P S p1 = some rs) : MI shN w l0 y_P_isWire b_P_isWire 2 .boolean 0 [.ref (w.1 P), .int p1] S rs S bz01 := by
  refine MI.of (by decide) (Nat.le_of_ble_eq_true rfl) rfl (fun v hb => by rcases hb with rfl | rfl <;> decide) (fun x hnL C hR => ?_)
  rw [P_isWire] at hf
  refine x_iload_n C d_P_isWire_0 1 rfl ?_
  refine x_jn (fun J1 => J1  = some rs → WX shN w x S 16 [] []) hf (fun hf => ?_) (fun J1 hJ1 hf => ?_)
  · refine x_iconst C d_P_isWire_16 0 ?_
    exact x_retR hR d_P_isWire_17 hf (Or.inl rfl)
  refine x_if_lt C d_P_isWire_1 hf (fun hf => ?_) (fun hf => ?_)
  · refine x_sub [] rfl ?_
    exact hJ1  hf
  refine x_iload_n C d_P_isWire_4 1 rfl ?_
  refine x_aload_n C d_P_isWire_5 0 rfl ?_
  refine x_get C d_P_isWire_6 f_P_wires wd109 hP.1 rfl ?_
  refine x_icmp_ge C d_P_isWire_9 hf (fun hf => ?_) (fun hf => ?_)
  · refine x_iconst C d_P_isWire_12 1 ?_
    refine x_goto C d_P_isWire_13 ?_
    exact x_retR hR d_P_isWire_17 hf (Or.inr rfl)
  refine x_sub [] rfl ?_
  exact hJ1  hf
set_option maxRecDepth 4000 in
theorem w_P_isOrder_L7 {w : Ww} {l0 : Launch} {x : Cx} {F : Nat} {P : Nat} {S : St} {rs : Int32} {k1 : Int32 → Int32 → Option Int32} (hnL : x.2.2.2.2.2.2.2.2.2.2.2.2 = 6) (C : XC shN w "NeighbourWires$Plan" b_P_isOrder l0 1 x) (hR : RI shN w b_P_isOrder bz01 (rs, S) x) (hP : isP P) (hk1 : ∀ (v2 : Int32) (v3 : Int32), k1 v2 v3 = some rs → WX shN w x S 51 [(0, .ref (w.1 P)), (2, .int v2), (3, .int v3)] []) : ∀ (n : Nat) (v6 : Int32) (v7 : Int32) (v8 : Int32), P_isOrder_L7 F P S k1 n v6 v7 v8 = some rs → WX shN w x S 7 [(0, .ref (w.1 P)), (2, .int v6), (3, .int v7), (4, .int v8)] [] := by
  intro n
  induction n with
  | zero => intro v6 v7 v8 hf; cases hf
  | succ n ih =>
    intro v6 v7 v8 hf
    rw [P_isOrder_L7] at hf
    refine x_iload C d_P_isOrder_7 3 rfl ?_
    refine x_aload_n C d_P_isOrder_9 0 rfl ?_
    refine x_get C d_P_isOrder_10 f_P_wires wd109 hP.1 rfl ?_
    refine x_icmp_ge C d_P_isOrder_13 hf (fun hf => ?_) (fun hf => ?_)
    · refine x_iload_n C d_P_isOrder_16 2 rfl ?_
      refine x_bipush C d_P_isOrder_17 10 ?_
      refine x_irem C d_P_isOrder_19 (by decide) ?_
      refine x_bi hf (fun v9 hf => ?_)
      refine x_istore C d_P_isOrder_20 [(5, .int v9), (0, .ref (w.1 P)), (2, .int v6), (3, .int v7), (4, .int v8)] (by rw [hnL]; decide) rfl ?_
      refine x_iload_n C d_P_isOrder_22 3 rfl ?_
      refine x_bipush C d_P_isOrder_23 10 ?_
      refine x_idiv C d_P_isOrder_25 (by decide) ?_
      refine x_bi hf (fun v10 hf => ?_)
      refine x_istore_n C d_P_isOrder_26 [(3, .int v10), (5, .int v9), (0, .ref (w.1 P)), (2, .int v6), (4, .int v8)] (by rw [hnL]; decide) rfl ?_
      refine x_aload_n C d_P_isOrder_27 2 rfl ?_
      refine x_iload C d_P_isOrder_28 1 rfl ?_
      refine x_cvr C d_P_isOrder_30 wd563 cm_P_isWire rfl hP.1 [.int v9] rfl rfl (by decide) (Nat.le_of_ble_eq_true rfl) hf (fun _ h => m_P_isWire hP h) (fun v11 hf hb_v11 => ?_)
      refine x_if_ne C d_P_isOrder_33 hf (fun hf => ?_) (fun hf => ?_)
      · refine x_iconst C d_P_isOrder_36 0 ?_
        exact x_retR hR d_P_isOrder_37 hf (Or.inl rfl)
      refine x_iload_n C d_P_isOrder_38 3 rfl ?_
      refine x_iconst C d_P_isOrder_39 1 ?_
      refine x_iload C d_P_isOrder_40 1 rfl ?_
      refine x_ishl C d_P_isOrder_42 ?_
      refine x_ior C d_P_isOrder_43 ?_
      refine x_bi hf (fun v12 hf => ?_)
      refine x_istore_n C d_P_isOrder_44 [(2, .int v12), (3, .int v10), (5, .int v9), (0, .ref (w.1 P)), (4, .int v8)] (by rw [hnL]; decide) rfl ?_
      refine x_iinc C 1 d_P_isOrder_45 4 rfl (by rw [hnL]; decide) hf (fun v13 => [(4, .int v13), (2, .int v12), (3, .int v10), (5, .int v9), (0, .ref (w.1 P))]) (fun _ => rfl) (fun v13 hf => ?_)
      refine x_goto C d_P_isOrder_48 ?_
      refine x_sub [4, 1, 2, 0] rfl ?_
      exact ih v12 v10 v13 hf
    refine x_sub [0, 1, 2] rfl ?_
    exact hk1 v6 v7 hf
set_option maxRecDepth 4000 in
theorem m_P_isOrder {w : Ww} {l0 : Launch} {F : Nat} {P : Nat} {S : St} {p1 : Int32} {rs : Int32} (hP : isP P) (hf : P_isOrder F P S p1 = some rs) : MI shN w l0 y_P_isOrder b_P_isOrder 6 .boolean 1 [.ref (w.1 P), .int p1] S rs S bz01 := by
  refine MI.of (by decide) (Nat.le_of_ble_eq_true rfl) rfl (fun v hb => by rcases hb with rfl | rfl <;> decide) (fun x hnL C hR => ?_)
  rw [P_isOrder] at hf
  refine x_iconst C d_P_isOrder_0 0 ?_
  refine x_istore_n C d_P_isOrder_1 [(2, .int 0), (0, .ref (w.1 P)), (1, .int p1)] (by rw [hnL]; decide) rfl ?_
  refine x_iload_n C d_P_isOrder_2 2 rfl ?_
  refine x_istore_n C d_P_isOrder_3 [(3, .int p1), (2, .int 0), (0, .ref (w.1 P)), (1, .int p1)] (by rw [hnL]; decide) rfl ?_
  refine x_iconst C d_P_isOrder_4 0 ?_
  refine x_istore C d_P_isOrder_5 [(4, .int 0), (3, .int p1), (2, .int 0), (0, .ref (w.1 P)), (1, .int p1)] (by rw [hnL]; decide) rfl ?_
  refine x_sub [3, 2, 1, 0] rfl ?_
  refine w_P_isOrder_L7 hnL C hR hP (fun v2 v3 hf => ?_) F 0 p1 0 hf
  refine x_iload_n C d_P_isOrder_51 2 rfl ?_
  refine x_jn (fun J4 => J4  = some rs → WX shN w x S 69 [] []) hf (fun hf => ?_) (fun J4 hJ4 hf => ?_)
  · refine x_iconst C d_P_isOrder_69 0 ?_
    exact x_retR hR d_P_isOrder_70 hf (Or.inl rfl)
  refine x_if_ne C d_P_isOrder_52 hf (fun hf => ?_) (fun hf => ?_)
  · refine x_iload_n C d_P_isOrder_55 1 rfl ?_
    refine x_aload_n C d_P_isOrder_56 0 rfl ?_
    refine x_cvr C d_P_isOrder_57 wd523 cm_P_words rfl hP.1 [] rfl rfl (by decide) (Nat.le_of_ble_eq_true rfl) hf (fun _ h => m_P_words hP h) (fun v5 hf hb_v5 => ?_)
    refine x_iconst C d_P_isOrder_60 1 ?_
    refine x_isub C d_P_isOrder_61 ?_
    refine x_icmp_ne C d_P_isOrder_62 hf (fun hf => ?_) (fun hf => ?_)
    · refine x_iconst C d_P_isOrder_65 1 ?_
      refine x_goto C d_P_isOrder_66 ?_
      exact x_retR hR d_P_isOrder_70 hf (Or.inr rfl)
    refine x_sub [] rfl ?_
    exact hJ4  hf
  refine x_sub [] rfl ?_
  exact hJ4  hf
set_option maxRecDepth 4000 in
theorem w_P_reorder_L19 {w : Ww} {l0 : Launch} {x : Cx} {F : Nat} {P : Nat} {rs : (Int32 × St)}  (hnL : x.2.2.2.2.2.2.2.2.2.2.2.2 = 4) (C : XC shN w "NeighbourWires$Plan" b_P_reorder l0 2 x) (hR : RI shN w b_P_reorder bz01 rs x) (hP : isP P)  : ∀ (n : Nat) (S3 : St) (v4 : Int32) (v5 : Int32), P_reorder_L19 F P n S3 v4 v5 = some rs → WX shN w x S3 19 [(0, .ref (w.1 P)), (2, .int v4), (3, .int v5)] [] := by
  intro n
  induction n with
  | zero => intro S3 v4 v5 hf; cases hf
  | succ n ih =>
    intro S3 v4 v5 hf
    rw [P_reorder_L19] at hf
    refine x_iload_n C d_P_reorder_19 2 rfl ?_
    refine x_if_lt C d_P_reorder_20 hf (fun hf => ?_) (fun hf => ?_)
    · refine x_iconst C d_P_reorder_53 1 ?_
      exact hR _ _ _ _ d_P_reorder_54.1 hf (Or.inr rfl)
    refine x_iload_n C d_P_reorder_23 2 rfl ?_
    refine x_aload_n C d_P_reorder_24 0 rfl ?_
    refine x_getr C d_P_reorder_25 f_P_wireAt wd132 hP.1 rfl ?_
    refine x_alen C (8) d_P_reorder_28 hP.2.1 rfl (by decide) ?_
    refine x_icmp_ge C d_P_reorder_29 hf (fun hf => ?_) (fun hf => ?_)
    · refine x_aload_n C d_P_reorder_32 0 rfl ?_
      refine x_getr C d_P_reorder_33 f_P_wireAt wd132 hP.1 rfl ?_
      refine x_iload_n C d_P_reorder_36 2 rfl ?_
      refine x_iload_n C d_P_reorder_37 1 rfl ?_
      refine x_bipush C d_P_reorder_38 10 ?_
      refine x_irem C d_P_reorder_40 (by decide) ?_
      refine x_iast C d_P_reorder_41 hP.2.1 hf (fun S6 hf => ?_)
      refine x_iload_n C d_P_reorder_42 1 rfl ?_
      refine x_bipush C d_P_reorder_43 10 ?_
      refine x_idiv C d_P_reorder_45 (by decide) ?_
      refine x_bi hf (fun v7 hf => ?_)
      refine x_istore_n C d_P_reorder_46 [(2, .int v7), (0, .ref (w.1 P)), (3, .int v5)] (by rw [hnL]; decide) rfl ?_
      refine x_iinc C (-1) d_P_reorder_47 2 rfl (by rw [hnL]; decide) hf (fun v8 => [(3, .int v8), (2, .int v7), (0, .ref (w.1 P))]) (fun _ => rfl) (fun v8 hf => ?_)
      refine x_goto C d_P_reorder_50 ?_
      refine x_sub [2, 1, 0] rfl ?_
      exact ih S6 v7 v8 hf
    refine x_iconst C d_P_reorder_53 1 ?_
    exact hR _ _ _ _ d_P_reorder_54.1 hf (Or.inr rfl)
set_option maxRecDepth 4000 in
theorem m_P_reorder {w : Ww} {l0 : Launch} {F : Nat} {P : Nat} {S : St} {p1 : Int32} {r : Int32} {S9 : St} (hP : isP P) (hf : P_reorder F P S p1 = some (r, S9)) : MI shN w l0 y_P_reorder b_P_reorder 4 .boolean 2 [.ref (w.1 P), .int p1] S r S9 bz01 := by
  refine MI.of (by decide) (Nat.le_of_ble_eq_true rfl) rfl (fun v hb => by rcases hb with rfl | rfl <;> decide) (fun x hnL C hR => ?_)
  rw [P_reorder] at hf
  refine x_aload_n C d_P_reorder_0 0 rfl ?_
  refine x_iload_n C d_P_reorder_1 1 rfl ?_
  refine x_cvr C d_P_reorder_2 wd559 cm_P_isOrder rfl hP.1 [.int p1] rfl rfl (by decide) (Nat.le_of_ble_eq_true rfl) hf (fun _ h => m_P_isOrder hP h) (fun v1 hf hb_v1 => ?_)
  refine x_if_ne C d_P_reorder_5 hf (fun hf => ?_) (fun hf => ?_)
  · refine x_iconst C d_P_reorder_8 0 ?_
    exact hR _ _ _ _ d_P_reorder_9.1 hf (Or.inl rfl)
  refine x_iload_n C d_P_reorder_10 1 rfl ?_
  refine x_istore_n C d_P_reorder_11 [(2, .int p1), (0, .ref (w.1 P)), (1, .int p1)] (by rw [hnL]; decide) rfl ?_
  refine x_aload_n C d_P_reorder_12 1 rfl ?_
  refine x_get C d_P_reorder_13 f_P_wires wd109 hP.1 rfl ?_
  refine x_iconst C d_P_reorder_16 1 ?_
  refine x_isub C d_P_reorder_17 ?_
  refine x_bi hf (fun v2 hf => ?_)
  refine x_istore_n C d_P_reorder_18 [(3, .int v2), (2, .int p1), (0, .ref (w.1 P)), (1, .int p1)] (by rw [hnL]; decide) rfl ?_
  refine x_sub [2, 1, 0] rfl ?_
  exact w_P_reorder_L19 hnL C hR hP  F S p1 v2 hf
set_option maxRecDepth 4000 in
theorem m_N_order {w : Ww} {l0 : Launch} {F : Nat} {S : St} {p1 : Int32} {r : Int32} {S9 : St}  (hf : N_order F S p1 = some (r, S9)) : MI shN w l0 y_N_order b_N_order 2 .int 3 [.ref (w.1 0), .int p1] S r S9 bzT := by
  refine MI.of (by decide) (Nat.le_of_ble_eq_true rfl) rfl (fun _ _ => rfl) (fun x hnL C hR => ?_)
  rw [N_order] at hf
  refine x_aload_n C d_N_order_0 0 rfl ?_
  refine x_getr C d_N_order_1 f_N_plan wd337 rfl rfl ?_
  refine x_iload_n C d_N_order_4 1 rfl ?_
  refine x_cvi C d_N_order_5 wd555 cm_P_reorder rfl rfl [.int p1] rfl rfl (by decide) (Nat.le_of_ble_eq_true rfl) hf (fun _ _ h => m_P_reorder isP1 h) (fun v1 S2 hf hb_v1 => ?_)
  refine x_if_eq C d_N_order_8 hf (fun hf => ?_) (fun hf => ?_)
  · refine x_iconst C d_N_order_15 (-1) ?_
    exact hR _ _ _ _ d_N_order_16.1 hf trivial
  refine x_iconst C d_N_order_11 1 ?_
  refine x_goto C d_N_order_12 ?_
  exact hR _ _ _ _ d_N_order_16.1 hf trivial
set_option maxRecDepth 4000 in
theorem m_N_shield {w : Ww} {l0 : Launch} {F : Nat} {S : St} {p1 : Int32} {p2 : Int32} {r : Int32} {S9 : St}  (hf : N_shield F S p1 p2 = some (r, S9)) : MI shN w l0 y_N_shield b_N_shield 4 .int 2 [.ref (w.1 0), .int p1, .int p2] S r S9 bzT := by
  refine MI.of (by decide) (Nat.le_of_ble_eq_true rfl) rfl (fun _ _ => rfl) (fun x hnL C hR => ?_)
  rw [N_shield] at hf
  refine x_aload_n C d_N_shield_0 0 rfl ?_
  refine x_getr C d_N_shield_1 f_N_plan wd337 rfl rfl ?_
  refine x_iload_n C d_N_shield_4 1 rfl ?_
  refine x_cvr C d_N_shield_5 wd571 cm_P_isGap rfl rfl [.int p1] rfl rfl (by decide) (Nat.le_of_ble_eq_true rfl) hf (fun _ h => m_P_isGap isP1 h) (fun v1 hf hb_v1 => ?_)
  refine x_if_ne C d_N_shield_8 hf (fun hf => ?_) (fun hf => ?_)
  · refine x_iconst C d_N_shield_11 (-1) ?_
    exact hR _ _ _ _ d_N_shield_12.1 hf trivial
  refine x_aload_n C d_N_shield_13 0 rfl ?_
  refine x_getr C d_N_shield_14 f_N_plan wd337 rfl rfl ?_
  refine x_iload_n C d_N_shield_17 1 rfl ?_
  refine x_cvr C d_N_shield_18 wd572 cm_P_shieldAt rfl rfl [.int p1] rfl rfl (by decide) (Nat.le_of_ble_eq_true rfl) hf (fun _ h => m_P_shieldAt isP1 h) (fun v2 hf hb_v2 => ?_)
  refine x_istore_n C d_N_shield_21 [(3, .int v2), (0, .ref (w.1 0)), (1, .int p1), (2, .int p2)] (by rw [hnL]; decide) rfl ?_
  refine x_aload_n C d_N_shield_22 1 rfl ?_
  refine x_getr C d_N_shield_23 f_N_plan wd337 rfl rfl ?_
  refine x_iload_n C d_N_shield_26 2 rfl ?_
  refine x_iload_n C d_N_shield_27 3 rfl ?_
  refine x_cvv C d_N_shield_28 wd573 cm_P_putShield rfl rfl [.int p1, .int p2] rfl rfl (by decide) (Nat.le_of_ble_eq_true rfl) hf (fun _ h => m_P_putShield isP1 h) (fun S3 hf => ?_)
  refine x_iload_n C d_N_shield_31 0 rfl ?_
  exact hR _ _ _ _ d_N_shield_32.1 hf trivial
set_option maxRecDepth 4000 in
theorem m_P_wireAt {w : Ww} {l0 : Launch} {F : Nat} {P : Nat} {S : St} {p1 : Int32} {rs : Int32} (hP : isP P) (hf : P_wireAt F P S p1 = some rs) : MI shN w l0 y_P_wireAt b_P_wireAt 2 .int 0 [.ref (w.1 P), .int p1] S rs S bzT := by
  refine MI.of (by decide) (Nat.le_of_ble_eq_true rfl) rfl (fun _ _ => rfl) (fun x hnL C hR => ?_)
  rw [P_wireAt] at hf
  refine x_iload_n C d_P_wireAt_0 1 rfl ?_
  refine x_jn (fun J1 => J1  = some rs → WX shN w x S 22 [] []) hf (fun hf => ?_) (fun J1 hJ1 hf => ?_)
  · refine x_iconst C d_P_wireAt_22 0 ?_
    exact x_retR hR d_P_wireAt_23 hf trivial
  refine x_if_lt C d_P_wireAt_1 hf (fun hf => ?_) (fun hf => ?_)
  · refine x_sub [] rfl ?_
    exact hJ1  hf
  refine x_iload_n C d_P_wireAt_4 1 rfl ?_
  refine x_aload_n C d_P_wireAt_5 0 rfl ?_
  refine x_getr C d_P_wireAt_6 f_P_wireAt wd132 hP.1 rfl ?_
  refine x_alen C (8) d_P_wireAt_9 hP.2.1 rfl (by decide) ?_
  refine x_icmp_ge C d_P_wireAt_10 hf (fun hf => ?_) (fun hf => ?_)
  · refine x_aload_n C d_P_wireAt_13 0 rfl ?_
    refine x_getr C d_P_wireAt_14 f_P_wireAt wd132 hP.1 rfl ?_
    refine x_iload_n C d_P_wireAt_17 1 rfl ?_
    refine x_iald C d_P_wireAt_18 hP.2.1 hf (fun hf => ?_)
    refine x_goto C d_P_wireAt_19 ?_
    exact x_retR hR d_P_wireAt_23 hf trivial
  refine x_sub [] rfl ?_
  exact hJ1  hf
set_option maxRecDepth 4000 in
theorem m_N_at {w : Ww} {l0 : Launch} {F : Nat} {S : St} {p1 : Int32} {p2 : Int32} {rs : Int32}  (hf : N_at F S p1 p2 = some rs) : MI shN w l0 y_N_at b_N_at 3 .int 2 [.ref (w.1 0), .int p1, .int p2] S rs S bzT := by
  refine MI.of (by decide) (Nat.le_of_ble_eq_true rfl) rfl (fun _ _ => rfl) (fun x hnL C hR => ?_)
  rw [N_at] at hf
  refine x_aload_n C d_N_at_0 0 rfl ?_
  refine x_getr C d_N_at_1 f_N_plan wd337 rfl rfl ?_
  refine x_iload_n C d_N_at_4 1 rfl ?_
  refine x_cvr C d_N_at_5 wd578 cm_P_isWire rfl rfl [.int p1] rfl rfl (by decide) (Nat.le_of_ble_eq_true rfl) hf (fun _ h => m_P_isWire isP1 h) (fun v1 hf hb_v1 => ?_)
  refine x_if_ne C d_N_at_8 hf (fun hf => ?_) (fun hf => ?_)
  · refine x_iconst C d_N_at_11 (-1) ?_
    exact x_retR hR d_N_at_12 hf trivial
  refine x_iload_n C d_N_at_13 2 rfl ?_
  rcases x_ite hf with ⟨q3, hf⟩ | ⟨q3, hf⟩
  · refine x_look C d_N_at_14 (off := 26) (t := 40) (by decide) (by rw [q3] <;> decide) (by decide) ?_
    refine x_aload_n C d_N_at_40 0 rfl ?_
    refine x_getr C d_N_at_41 f_N_plan wd337 rfl rfl ?_
    refine x_iload_n C d_N_at_44 1 rfl ?_
    refine x_cvr C d_N_at_45 wd579 cm_P_wireAt rfl rfl [.int p1] rfl rfl (by decide) (Nat.le_of_ble_eq_true rfl) hf (fun _ h => m_P_wireAt isP1 h) (fun v2 hf hb_v2 => ?_)
    exact x_retR hR d_N_at_48 hf trivial
  rcases x_ite hf with ⟨q5, hf⟩ | ⟨q5, hf⟩
  · refine x_look C d_N_at_14 (off := 35) (t := 49) (by decide) (by rw [q5] <;> decide) (by decide) ?_
    refine x_aload_n C d_N_at_49 0 rfl ?_
    refine x_getr C d_N_at_50 f_N_plan wd337 rfl rfl ?_
    refine x_iload_n C d_N_at_53 1 rfl ?_
    refine x_cvr C d_N_at_54 wd572 cm_P_shieldAt rfl rfl [.int p1] rfl rfl (by decide) (Nat.le_of_ble_eq_true rfl) hf (fun _ h => m_P_shieldAt isP1 h) (fun v4 hf hb_v4 => ?_)
    exact x_retR hR d_N_at_57 hf trivial
  refine x_look C d_N_at_14 (off := 44) (t := 58) (by decide) ((lv_osw q3 (by decide)).trans ((lv_osw q5 (by decide)).trans rfl)) (by decide) ?_
  refine x_iconst C d_N_at_58 (-1) ?_
  exact x_retR hR d_N_at_59 hf trivial
set_option maxRecDepth 4000 in
theorem w_P_byPlaces_L4 {w : Ww} {l0 : Launch} {x : Cx} {F : Nat} {p1 : Int32} {P : Nat} {S : St} {rs : Int32}  (hnL : x.2.2.2.2.2.2.2.2.2.2.2.2 = 4) (C : XC shN w "NeighbourWires$Plan" b_P_byPlaces l0 1 x) (hR : RI shN w b_P_byPlaces bzT (rs, S) x) (hP : isP P)  : ∀ (n : Nat) (v1 : Int32) (v2 : Int32), P_byPlaces_L4 F p1 P S n v1 v2 = some rs → WX shN w x S 4 [(0, .ref (w.1 P)), (1, .int p1), (2, .int v1), (3, .int v2)] [] := by
  intro n
  induction n with
  | zero => intro v1 v2 hf; cases hf
  | succ n ih =>
    intro v1 v2 hf
    rw [P_byPlaces_L4] at hf
    refine x_iload_n C d_P_byPlaces_4 3 rfl ?_
    refine x_aload_n C d_P_byPlaces_5 0 rfl ?_
    refine x_get C d_P_byPlaces_6 f_P_wires wd109 hP.1 rfl ?_
    refine x_icmp_ge C d_P_byPlaces_9 hf (fun hf => ?_) (fun hf => ?_)
    · refine x_iload_n C d_P_byPlaces_12 2 rfl ?_
      refine x_iload_n C d_P_byPlaces_13 1 rfl ?_
      refine x_aload_n C d_P_byPlaces_14 0 rfl ?_
      refine x_iload_n C d_P_byPlaces_15 3 rfl ?_
      refine x_cvr C d_P_byPlaces_16 wd596 cm_P_wireAt rfl hP.1 [.int v2] rfl rfl (by decide) (Nat.le_of_ble_eq_true rfl) hf (fun _ h => m_P_wireAt hP h) (fun v3 hf hb_v3 => ?_)
      refine x_ishr C d_P_byPlaces_19 ?_
      refine x_iconst C d_P_byPlaces_20 1 ?_
      refine x_iand C d_P_byPlaces_21 ?_
      refine x_iload_n C d_P_byPlaces_22 3 rfl ?_
      refine x_ishl C d_P_byPlaces_23 ?_
      refine x_ior C d_P_byPlaces_24 ?_
      refine x_bi hf (fun v4 hf => ?_)
      refine x_istore_n C d_P_byPlaces_25 [(2, .int v4), (0, .ref (w.1 P)), (1, .int p1), (3, .int v2)] (by rw [hnL]; decide) rfl ?_
      refine x_iinc C 1 d_P_byPlaces_26 3 rfl (by rw [hnL]; decide) hf (fun v5 => [(3, .int v5), (2, .int v4), (0, .ref (w.1 P)), (1, .int p1)]) (fun _ => rfl) (fun v5 hf => ?_)
      refine x_goto C d_P_byPlaces_29 ?_
      refine x_sub [2, 3, 1, 0] rfl ?_
      exact ih v4 v5 hf
    refine x_iload_n C d_P_byPlaces_32 2 rfl ?_
    exact x_retR hR d_P_byPlaces_33 hf trivial
set_option maxRecDepth 4000 in
theorem m_P_byPlaces {w : Ww} {l0 : Launch} {F : Nat} {P : Nat} {S : St} {p1 : Int32} {rs : Int32} (hP : isP P) (hf : P_byPlaces F P S p1 = some rs) : MI shN w l0 y_P_byPlaces b_P_byPlaces 4 .int 1 [.ref (w.1 P), .int p1] S rs S bzT := by
  refine MI.of (by decide) (Nat.le_of_ble_eq_true rfl) rfl (fun _ _ => rfl) (fun x hnL C hR => ?_)
  rw [P_byPlaces] at hf
  refine x_iconst C d_P_byPlaces_0 0 ?_
  refine x_istore_n C d_P_byPlaces_1 [(2, .int 0), (0, .ref (w.1 P)), (1, .int p1)] (by rw [hnL]; decide) rfl ?_
  refine x_iconst C d_P_byPlaces_2 0 ?_
  refine x_istore_n C d_P_byPlaces_3 [(3, .int 0), (2, .int 0), (0, .ref (w.1 P)), (1, .int p1)] (by rw [hnL]; decide) rfl ?_
  refine x_sub [2, 3, 1, 0] rfl ?_
  exact w_P_byPlaces_L4 hnL C hR hP  F 0 0 hf
set_option maxRecDepth 4000 in
theorem m_C_between {w : Ww} {l0 : Launch} {F : Nat} {S : St} {p1 : Int32} {p2 : Int32} {p3 : Int32} {p4 : Int32} {rs : St}  (hf : C_between F S p1 p2 p3 p4 = some rs) : MV shN w l0 y_C_between b_C_between 7 0 [.ref (w.1 5), .int p1, .int p2, .int p3, .int p4] S rs := by
  refine MV.of (by decide) (Nat.le_of_ble_eq_true rfl) rfl (fun x hnL C hR => ?_)
  rw [C_between] at hf
  refine x_iconst C d_C_between_0 1 ?_
  refine x_iload_n C d_C_between_1 3 rfl ?_
  refine x_iconst C d_C_between_2 1 ?_
  refine x_isub C d_C_between_3 ?_
  refine x_ishl C d_C_between_4 ?_
  refine x_iconst C d_C_between_5 1 ?_
  refine x_isub C d_C_between_6 ?_
  refine x_bi hf (fun v1 hf => ?_)
  refine x_istore C d_C_between_7 [(5, .int v1), (0, .ref (w.1 5)), (1, .int p1), (2, .int p2), (3, .int p3), (4, .int p4)] (by rw [hnL]; decide) rfl ?_
  refine x_aload_n C d_C_between_9 1 rfl ?_
  refine x_iconst C d_C_between_10 1 ?_
  refine x_iload_n C d_C_between_11 4 rfl ?_
  refine x_ishl C d_C_between_12 ?_
  refine x_iconst C d_C_between_13 1 ?_
  refine x_isub C d_C_between_14 ?_
  refine x_put C d_C_between_15 f_C_places wd159 rfl rfl hf (fun S2 hf => ?_)
  refine x_aload_n C d_C_between_18 1 rfl ?_
  refine x_iload_n C d_C_between_19 3 rfl ?_
  refine x_iload_n C d_C_between_20 2 rfl ?_
  refine x_iconst C d_C_between_21 (-1) ?_
  refine x_ixor C d_C_between_22 ?_
  refine x_iand C d_C_between_23 ?_
  refine x_put C d_C_between_24 f_C_rising wd160 rfl rfl hf (fun S3 hf => ?_)
  refine x_aload_n C d_C_between_27 1 rfl ?_
  refine x_iload_n C d_C_between_28 2 rfl ?_
  refine x_iload_n C d_C_between_29 3 rfl ?_
  refine x_iconst C d_C_between_30 (-1) ?_
  refine x_ixor C d_C_between_31 ?_
  refine x_iand C d_C_between_32 ?_
  refine x_put C d_C_between_33 f_C_falling wd161 rfl rfl hf (fun S4 hf => ?_)
  refine x_aload_n C d_C_between_36 1 rfl ?_
  refine x_aload_n C d_C_between_37 1 rfl ?_
  refine x_get C d_C_between_38 f_C_rising wd160 rfl rfl ?_
  refine x_aload_n C d_C_between_41 1 rfl ?_
  refine x_get C d_C_between_42 f_C_falling wd161 rfl rfl ?_
  refine x_ior C d_C_between_45 ?_
  refine x_put C d_C_between_46 f_C_moving wd162 rfl rfl hf (fun S5 hf => ?_)
  refine x_aload_n C d_C_between_49 1 rfl ?_
  refine x_iload C d_C_between_50 5 rfl ?_
  refine x_iload C d_C_between_52 0 rfl ?_
  refine x_iand C d_C_between_54 ?_
  refine x_put C d_C_between_55 f_C_shielded wd163 rfl rfl hf (fun S6 hf => ?_)
  refine x_iload C d_C_between_58 0 rfl ?_
  refine x_aload_n C d_C_between_60 1 rfl ?_
  refine x_get C d_C_between_61 f_C_shielded wd163 rfl rfl ?_
  refine x_iconst C d_C_between_64 (-1) ?_
  refine x_ixor C d_C_between_65 ?_
  refine x_iand C d_C_between_66 ?_
  refine x_bi hf (fun v7 hf => ?_)
  refine x_istore C d_C_between_67 [(6, .int v7), (5, .int v1), (0, .ref (w.1 5)), (1, .int p1), (2, .int p2), (3, .int p3), (4, .int p4)] (by rw [hnL]; decide) rfl ?_
  refine x_aload_n C d_C_between_69 2 rfl ?_
  refine x_aload_n C d_C_between_70 2 rfl ?_
  refine x_get C d_C_between_71 f_C_moving wd162 rfl rfl ?_
  refine x_aload_n C d_C_between_74 2 rfl ?_
  refine x_get C d_C_between_75 f_C_moving wd162 rfl rfl ?_
  refine x_iconst C d_C_between_78 1 ?_
  refine x_ishr C d_C_between_79 ?_
  refine x_ixor C d_C_between_80 ?_
  refine x_iload C d_C_between_81 0 rfl ?_
  refine x_iand C d_C_between_83 ?_
  refine x_put C d_C_between_84 f_C_against1 wd164 rfl rfl hf (fun S8 hf => ?_)
  refine x_aload_n C d_C_between_87 2 rfl ?_
  refine x_aload_n C d_C_between_88 2 rfl ?_
  refine x_get C d_C_between_89 f_C_rising wd160 rfl rfl ?_
  refine x_aload_n C d_C_between_92 2 rfl ?_
  refine x_get C d_C_between_93 f_C_falling wd161 rfl rfl ?_
  refine x_iconst C d_C_between_96 1 ?_
  refine x_ishr C d_C_between_97 ?_
  refine x_iand C d_C_between_98 ?_
  refine x_aload_n C d_C_between_99 2 rfl ?_
  refine x_get C d_C_between_100 f_C_falling wd161 rfl rfl ?_
  refine x_aload_n C d_C_between_103 2 rfl ?_
  refine x_get C d_C_between_104 f_C_rising wd160 rfl rfl ?_
  refine x_iconst C d_C_between_107 1 ?_
  refine x_ishr C d_C_between_108 ?_
  refine x_iand C d_C_between_109 ?_
  refine x_ior C d_C_between_110 ?_
  refine x_iload C d_C_between_111 0 rfl ?_
  refine x_iand C d_C_between_113 ?_
  refine x_put C d_C_between_114 f_C_against2 wd165 rfl rfl hf (fun S9 hf => ?_)
  exact hR _ _ _ d_C_between_117.1 hf
set_option maxRecDepth 4000 in
theorem m_N_weigh {w : Ww} {l0 : Launch} {F : Nat} {S : St} {p1 : Int32} {p2 : Int32} {rs : St}  (hf : N_weigh F S p1 p2 = some rs) : MV shN w l0 y_N_weigh b_N_weigh 3 2 [.ref (w.1 0), .int p1, .int p2] S rs := by
  refine MV.of (by decide) (Nat.le_of_ble_eq_true rfl) rfl (fun x hnL C hR => ?_)
  rw [N_weigh] at hf
  refine x_aload_n C d_N_weigh_0 0 rfl ?_
  refine x_getr C d_N_weigh_1 f_N_change wd338 rfl rfl ?_
  refine x_aload_n C d_N_weigh_4 0 rfl ?_
  refine x_getr C d_N_weigh_5 f_N_plan wd337 rfl rfl ?_
  refine x_iload_n C d_N_weigh_8 1 rfl ?_
  refine x_cvr C d_N_weigh_9 wd592 cm_P_byPlaces rfl rfl [.int p1] rfl rfl (by decide) (Nat.le_of_ble_eq_true rfl) hf (fun _ h => m_P_byPlaces isP1 h) (fun v1 hf hb_v1 => ?_)
  refine x_aload_n C d_N_weigh_12 0 rfl ?_
  refine x_getr C d_N_weigh_13 f_N_plan wd337 rfl rfl ?_
  refine x_iload_n C d_N_weigh_16 2 rfl ?_
  refine x_cvr C d_N_weigh_17 wd592 cm_P_byPlaces rfl rfl [.int p2] rfl rfl (by decide) (Nat.le_of_ble_eq_true rfl) hf (fun _ h => m_P_byPlaces isP1 h) (fun v2 hf hb_v2 => ?_)
  refine x_aload_n C d_N_weigh_20 0 rfl ?_
  refine x_getr C d_N_weigh_21 f_N_plan wd337 rfl rfl ?_
  refine x_get C d_N_weigh_24 f_P_wires wd113 rfl rfl ?_
  refine x_aload_n C d_N_weigh_27 0 rfl ?_
  refine x_getr C d_N_weigh_28 f_N_plan wd337 rfl rfl ?_
  refine x_get C d_N_weigh_31 f_P_shields wd126 rfl rfl ?_
  refine x_cvv C d_N_weigh_34 wd597 cm_C_between rfl rfl [.int v1, .int v2, .int (S.1 1 0), .int (S.1 1 3)] rfl rfl (by decide) (Nat.le_of_ble_eq_true rfl) hf (fun _ h => m_C_between h) (fun S3 hf => ?_)
  exact hR _ _ _ d_N_weigh_37.1 hf
set_option maxRecDepth 4000 in
theorem m_C_moves {w : Ww} {l0 : Launch} {F : Nat} {S : St} {rs : Int32}  (hf : C_moves F S = some rs) : MI shN w l0 y_C_moves b_C_moves 1 .int 1 [.ref (w.1 5)] S rs S bzT := by
  refine MI.of (by decide) (Nat.le_of_ble_eq_true rfl) rfl (fun _ _ => rfl) (fun x hnL C hR => ?_)
  rw [C_moves] at hf
  refine x_aload_n C d_C_moves_0 0 rfl ?_
  refine x_get C d_C_moves_1 f_C_moving wd162 rfl rfl ?_
  refine x_csr C d_C_moves_4 wd605 cm_Ji_bitCount [.int (S.1 5 3)] rfl rfl (by decide) (Nat.le_of_ble_eq_true rfl) hf (fun _ h => m_Ji_bitCount h) (fun v1 hf hb_v1 => ?_)
  exact x_retR hR d_C_moves_7 hf trivial
set_option maxRecDepth 4000 in
theorem m_C_cost {w : Ww} {l0 : Launch} {F : Nat} {S : St} {p1 : Int32} {p2 : Int32} {rs : Int32}  (hf : C_cost F S p1 p2 = some rs) : MI shN w l0 y_C_cost b_C_cost 5 .int 2 [.ref (w.1 5), .int p1, .int p2] S rs S bzT := by
  refine MI.of (by decide) (Nat.le_of_ble_eq_true rfl) rfl (fun _ _ => rfl) (fun x hnL C hR => ?_)
  rw [C_cost] at hf
  refine x_aload_n C d_C_cost_0 0 rfl ?_
  refine x_get C d_C_cost_1 f_C_moving wd162 rfl rfl ?_
  refine x_aload_n C d_C_cost_4 0 rfl ?_
  refine x_get C d_C_cost_5 f_C_shielded wd163 rfl rfl ?_
  refine x_iand C d_C_cost_8 ?_
  refine x_csr C d_C_cost_9 wd605 cm_Ji_bitCount [.int ((S.1 5 3) &&& (S.1 5 4))] rfl rfl (by decide) (Nat.le_of_ble_eq_true rfl) hf (fun _ h => m_Ji_bitCount h) (fun v1 hf hb_v1 => ?_)
  refine x_aload_n C d_C_cost_12 0 rfl ?_
  refine x_get C d_C_cost_13 f_C_moving wd162 rfl rfl ?_
  refine x_iconst C d_C_cost_16 1 ?_
  refine x_ishr C d_C_cost_17 ?_
  refine x_aload_n C d_C_cost_18 0 rfl ?_
  refine x_get C d_C_cost_19 f_C_shielded wd163 rfl rfl ?_
  refine x_iand C d_C_cost_22 ?_
  refine x_csr C d_C_cost_23 wd605 cm_Ji_bitCount [.int ((jshr (S.1 5 3) 1) &&& (S.1 5 4))] rfl rfl (by decide) (Nat.le_of_ble_eq_true rfl) hf (fun _ h => m_Ji_bitCount h) (fun v2 hf hb_v2 => ?_)
  refine x_iadd C d_C_cost_26 ?_
  refine x_bi hf (fun v3 hf => ?_)
  refine x_istore_n C d_C_cost_27 [(3, .int v3), (0, .ref (w.1 5)), (1, .int p1), (2, .int p2)] (by rw [hnL]; decide) rfl ?_
  refine x_aload_n C d_C_cost_28 1 rfl ?_
  refine x_get C d_C_cost_29 f_C_against1 wd164 rfl rfl ?_
  refine x_csr C d_C_cost_32 wd605 cm_Ji_bitCount [.int (S.1 5 5)] rfl rfl (by decide) (Nat.le_of_ble_eq_true rfl) hf (fun _ h => m_Ji_bitCount h) (fun v4 hf hb_v4 => ?_)
  refine x_iconst C d_C_cost_35 4 ?_
  refine x_aload_n C d_C_cost_36 1 rfl ?_
  refine x_get C d_C_cost_37 f_C_against2 wd165 rfl rfl ?_
  refine x_csr C d_C_cost_40 wd605 cm_Ji_bitCount [.int (S.1 5 6)] rfl rfl (by decide) (Nat.le_of_ble_eq_true rfl) hf (fun _ h => m_Ji_bitCount h) (fun v5 hf hb_v5 => ?_)
  refine x_imul C d_C_cost_43 ?_
  refine x_iadd C d_C_cost_44 ?_
  refine x_bi hf (fun v6 hf => ?_)
  refine x_istore C d_C_cost_45 [(4, .int v6), (3, .int v3), (0, .ref (w.1 5)), (1, .int p1), (2, .int p2)] (by rw [hnL]; decide) rfl ?_
  refine x_iload_n C d_C_cost_47 3 rfl ?_
  refine x_aload_n C d_C_cost_48 2 rfl ?_
  refine x_cvr C d_C_cost_49 wd611 cm_C_moves rfl rfl [] rfl rfl (by decide) (Nat.le_of_ble_eq_true rfl) hf (fun _ h => m_C_moves h) (fun v7 hf hb_v7 => ?_)
  refine x_imul C d_C_cost_52 ?_
  refine x_iload_n C d_C_cost_53 4 rfl ?_
  refine x_iload C d_C_cost_54 0 rfl ?_
  refine x_iload_n C d_C_cost_56 1 rfl ?_
  refine x_iadd C d_C_cost_57 ?_
  refine x_imul C d_C_cost_58 ?_
  refine x_iadd C d_C_cost_59 ?_
  exact x_retR hR d_C_cost_60 hf trivial
set_option maxRecDepth 4000 in
theorem m_C_greatestSlow {w : Ww} {l0 : Launch} {F : Nat} {S : St} {rs : Int32}  (hf : C_greatestSlow F S = some rs) : MI shN w l0 y_C_greatestSlow b_C_greatestSlow 6 .int 0 [.ref (w.1 5)] S rs S bzT := by
  refine MI.of (by decide) (Nat.le_of_ble_eq_true rfl) rfl (fun _ _ => rfl) (fun x hnL C hR => ?_)
  rw [C_greatestSlow] at hf
  refine x_aload_n C d_C_greatestSlow_0 0 rfl ?_
  refine x_get C d_C_greatestSlow_1 f_C_against1 wd164 rfl rfl ?_
  refine x_aload_n C d_C_greatestSlow_4 0 rfl ?_
  refine x_get C d_C_greatestSlow_5 f_C_against2 wd165 rfl rfl ?_
  refine x_ior C d_C_greatestSlow_8 ?_
  refine x_aload_n C d_C_greatestSlow_9 0 rfl ?_
  refine x_get C d_C_greatestSlow_10 f_C_shielded wd163 rfl rfl ?_
  refine x_ior C d_C_greatestSlow_13 ?_
  refine x_bi hf (fun v1 hf => ?_)
  refine x_istore_n C d_C_greatestSlow_14 [(1, .int v1), (0, .ref (w.1 5))] (by rw [hnL]; decide) rfl ?_
  refine x_aload_n C d_C_greatestSlow_15 1 rfl ?_
  refine x_get C d_C_greatestSlow_16 f_C_moving wd162 rfl rfl ?_
  refine x_iload_n C d_C_greatestSlow_19 0 rfl ?_
  refine x_iand C d_C_greatestSlow_20 ?_
  refine x_bi hf (fun v2 hf => ?_)
  refine x_istore_n C d_C_greatestSlow_21 [(2, .int v2), (1, .int v1), (0, .ref (w.1 5))] (by rw [hnL]; decide) rfl ?_
  refine x_aload_n C d_C_greatestSlow_22 2 rfl ?_
  refine x_get C d_C_greatestSlow_23 f_C_moving wd162 rfl rfl ?_
  refine x_iload_n C d_C_greatestSlow_26 1 rfl ?_
  refine x_iconst C d_C_greatestSlow_27 1 ?_
  refine x_ishl C d_C_greatestSlow_28 ?_
  refine x_iand C d_C_greatestSlow_29 ?_
  refine x_bi hf (fun v3 hf => ?_)
  refine x_istore_n C d_C_greatestSlow_30 [(3, .int v3), (2, .int v2), (1, .int v1), (0, .ref (w.1 5))] (by rw [hnL]; decide) rfl ?_
  refine x_aload_n C d_C_greatestSlow_31 3 rfl ?_
  refine x_get C d_C_greatestSlow_32 f_C_moving wd162 rfl rfl ?_
  refine x_aload_n C d_C_greatestSlow_35 3 rfl ?_
  refine x_get C d_C_greatestSlow_36 f_C_against2 wd165 rfl rfl ?_
  refine x_iand C d_C_greatestSlow_39 ?_
  refine x_bi hf (fun v4 hf => ?_)
  refine x_istore C d_C_greatestSlow_40 [(4, .int v4), (3, .int v3), (2, .int v2), (1, .int v1), (0, .ref (w.1 5))] (by rw [hnL]; decide) rfl ?_
  refine x_aload_n C d_C_greatestSlow_42 4 rfl ?_
  refine x_get C d_C_greatestSlow_43 f_C_moving wd162 rfl rfl ?_
  refine x_aload_n C d_C_greatestSlow_46 4 rfl ?_
  refine x_get C d_C_greatestSlow_47 f_C_against2 wd165 rfl rfl ?_
  refine x_iconst C d_C_greatestSlow_50 1 ?_
  refine x_ishl C d_C_greatestSlow_51 ?_
  refine x_iand C d_C_greatestSlow_52 ?_
  refine x_bi hf (fun v5 hf => ?_)
  refine x_istore C d_C_greatestSlow_53 [(5, .int v5), (4, .int v4), (3, .int v3), (2, .int v2), (1, .int v1), (0, .ref (w.1 5))] (by rw [hnL]; decide) rfl ?_
  refine x_iload C d_C_greatestSlow_55 1 rfl ?_
  refine x_iload C d_C_greatestSlow_57 0 rfl ?_
  refine x_iand C d_C_greatestSlow_59 ?_
  refine x_if_eq C d_C_greatestSlow_60 hf (fun hf => ?_) (fun hf => ?_)
  · refine x_iload C d_C_greatestSlow_65 1 rfl ?_
    refine x_iload_n C d_C_greatestSlow_67 2 rfl ?_
    refine x_iand C d_C_greatestSlow_68 ?_
    refine x_iload_n C d_C_greatestSlow_69 3 rfl ?_
    refine x_iload C d_C_greatestSlow_70 0 rfl ?_
    refine x_iand C d_C_greatestSlow_72 ?_
    refine x_ior C d_C_greatestSlow_73 ?_
    refine x_if_eq C d_C_greatestSlow_74 hf (fun hf => ?_) (fun hf => ?_)
    · refine x_iload C d_C_greatestSlow_79 1 rfl ?_
      refine x_iload C d_C_greatestSlow_81 0 rfl ?_
      refine x_ior C d_C_greatestSlow_83 ?_
      refine x_iload_n C d_C_greatestSlow_84 3 rfl ?_
      refine x_iload_n C d_C_greatestSlow_85 2 rfl ?_
      refine x_iand C d_C_greatestSlow_86 ?_
      refine x_ior C d_C_greatestSlow_87 ?_
      refine x_if_eq C d_C_greatestSlow_88 hf (fun hf => ?_) (fun hf => ?_)
      · refine x_iload_n C d_C_greatestSlow_93 3 rfl ?_
        refine x_iload_n C d_C_greatestSlow_94 2 rfl ?_
        refine x_ior C d_C_greatestSlow_95 ?_
        refine x_if_eq C d_C_greatestSlow_96 hf (fun hf => ?_) (fun hf => ?_)
        · refine x_iconst C d_C_greatestSlow_103 0 ?_
          exact x_retR hR d_C_greatestSlow_104 hf trivial
        refine x_iconst C d_C_greatestSlow_99 1 ?_
        refine x_goto C d_C_greatestSlow_100 ?_
        exact x_retR hR d_C_greatestSlow_104 hf trivial
      refine x_iconst C d_C_greatestSlow_91 2 ?_
      exact x_retR hR d_C_greatestSlow_92 hf trivial
    refine x_iconst C d_C_greatestSlow_77 3 ?_
    exact x_retR hR d_C_greatestSlow_78 hf trivial
  refine x_iconst C d_C_greatestSlow_63 4 ?_
  exact x_retR hR d_C_greatestSlow_64 hf trivial
set_option maxRecDepth 4000 in
theorem m_C_noise {w : Ww} {l0 : Launch} {F : Nat} {S : St} {rs : Int32}  (hf : C_noise F S = some rs) : MI shN w l0 y_C_noise b_C_noise 7 .int 0 [.ref (w.1 5)] S rs S bzT := by
  refine MI.of (by decide) (Nat.le_of_ble_eq_true rfl) rfl (fun _ _ => rfl) (fun x hnL C hR => ?_)
  rw [C_noise] at hf
  refine x_aload_n C d_C_noise_0 0 rfl ?_
  refine x_get C d_C_noise_1 f_C_places wd159 rfl rfl ?_
  refine x_aload_n C d_C_noise_4 0 rfl ?_
  refine x_get C d_C_noise_5 f_C_moving wd162 rfl rfl ?_
  refine x_iconst C d_C_noise_8 (-1) ?_
  refine x_ixor C d_C_noise_9 ?_
  refine x_iand C d_C_noise_10 ?_
  refine x_bi hf (fun v1 hf => ?_)
  refine x_istore_n C d_C_noise_11 [(1, .int v1), (0, .ref (w.1 5))] (by rw [hnL]; decide) rfl ?_
  refine x_aload_n C d_C_noise_12 1 rfl ?_
  refine x_get C d_C_noise_13 f_C_rising wd160 rfl rfl ?_
  refine x_aload_n C d_C_noise_16 1 rfl ?_
  refine x_get C d_C_noise_17 f_C_shielded wd163 rfl rfl ?_
  refine x_iconst C d_C_noise_20 (-1) ?_
  refine x_ixor C d_C_noise_21 ?_
  refine x_iand C d_C_noise_22 ?_
  refine x_iconst C d_C_noise_23 1 ?_
  refine x_ishl C d_C_noise_24 ?_
  refine x_bi hf (fun v2 hf => ?_)
  refine x_istore_n C d_C_noise_25 [(2, .int v2), (1, .int v1), (0, .ref (w.1 5))] (by rw [hnL]; decide) rfl ?_
  refine x_aload_n C d_C_noise_26 2 rfl ?_
  refine x_get C d_C_noise_27 f_C_rising wd160 rfl rfl ?_
  refine x_iconst C d_C_noise_30 1 ?_
  refine x_ishr C d_C_noise_31 ?_
  refine x_aload_n C d_C_noise_32 2 rfl ?_
  refine x_get C d_C_noise_33 f_C_shielded wd163 rfl rfl ?_
  refine x_iconst C d_C_noise_36 (-1) ?_
  refine x_ixor C d_C_noise_37 ?_
  refine x_iand C d_C_noise_38 ?_
  refine x_bi hf (fun v3 hf => ?_)
  refine x_istore_n C d_C_noise_39 [(3, .int v3), (2, .int v2), (1, .int v1), (0, .ref (w.1 5))] (by rw [hnL]; decide) rfl ?_
  refine x_aload_n C d_C_noise_40 3 rfl ?_
  refine x_get C d_C_noise_41 f_C_falling wd161 rfl rfl ?_
  refine x_aload_n C d_C_noise_44 3 rfl ?_
  refine x_get C d_C_noise_45 f_C_shielded wd163 rfl rfl ?_
  refine x_iconst C d_C_noise_48 (-1) ?_
  refine x_ixor C d_C_noise_49 ?_
  refine x_iand C d_C_noise_50 ?_
  refine x_iconst C d_C_noise_51 1 ?_
  refine x_ishl C d_C_noise_52 ?_
  refine x_bi hf (fun v4 hf => ?_)
  refine x_istore C d_C_noise_53 [(4, .int v4), (3, .int v3), (2, .int v2), (1, .int v1), (0, .ref (w.1 5))] (by rw [hnL]; decide) rfl ?_
  refine x_aload_n C d_C_noise_55 4 rfl ?_
  refine x_get C d_C_noise_56 f_C_falling wd161 rfl rfl ?_
  refine x_iconst C d_C_noise_59 1 ?_
  refine x_ishr C d_C_noise_60 ?_
  refine x_aload_n C d_C_noise_61 4 rfl ?_
  refine x_get C d_C_noise_62 f_C_shielded wd163 rfl rfl ?_
  refine x_iconst C d_C_noise_65 (-1) ?_
  refine x_ixor C d_C_noise_66 ?_
  refine x_iand C d_C_noise_67 ?_
  refine x_bi hf (fun v5 hf => ?_)
  refine x_istore C d_C_noise_68 [(5, .int v5), (4, .int v4), (3, .int v3), (2, .int v2), (1, .int v1), (0, .ref (w.1 5))] (by rw [hnL]; decide) rfl ?_
  refine x_iload_n C d_C_noise_70 4 rfl ?_
  refine x_iload_n C d_C_noise_71 3 rfl ?_
  refine x_iload_n C d_C_noise_72 2 rfl ?_
  refine x_iand C d_C_noise_73 ?_
  refine x_iload C d_C_noise_74 1 rfl ?_
  refine x_iload C d_C_noise_76 0 rfl ?_
  refine x_iand C d_C_noise_78 ?_
  refine x_ior C d_C_noise_79 ?_
  refine x_iand C d_C_noise_80 ?_
  refine x_if_eq C d_C_noise_81 hf (fun hf => ?_) (fun hf => ?_)
  · refine x_iload_n C d_C_noise_86 3 rfl ?_
    refine x_iload C d_C_noise_87 1 rfl ?_
    refine x_ior C d_C_noise_89 ?_
    refine x_iload_n C d_C_noise_90 2 rfl ?_
    refine x_iload C d_C_noise_91 0 rfl ?_
    refine x_ior C d_C_noise_93 ?_
    refine x_ixor C d_C_noise_94 ?_
    refine x_bi hf (fun v6 hf => ?_)
    refine x_istore C d_C_noise_95 [(6, .int v6), (5, .int v5), (4, .int v4), (3, .int v3), (2, .int v2), (1, .int v1), (0, .ref (w.1 5))] (by rw [hnL]; decide) rfl ?_
    refine x_iload_n C d_C_noise_97 5 rfl ?_
    refine x_iload C d_C_noise_98 0 rfl ?_
    refine x_iand C d_C_noise_100 ?_
    refine x_if_eq C d_C_noise_101 hf (fun hf => ?_) (fun hf => ?_)
    · refine x_iconst C d_C_noise_108 0 ?_
      exact x_retR hR d_C_noise_109 hf trivial
    refine x_iconst C d_C_noise_104 1 ?_
    refine x_goto C d_C_noise_105 ?_
    exact x_retR hR d_C_noise_109 hf trivial
  refine x_iconst C d_C_noise_84 2 ?_
  exact x_retR hR d_C_noise_85 hf trivial
