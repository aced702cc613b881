set_option maxRecDepth 4000 in
theorem w_O_leastCost_L14 {w : Ww} {l0 : Launch} {x : Cx} {F : Nat} {S : St} {v1 : Int32} {rs : Int32} {k2 : Int32 → Option Int32} (hnL : x.2.2.2.2.2.2.2.2.2.2.2.2 = 4) (C : XC shN w "NeighbourWires$Orders" b_O_leastCost l0 1 x) (hR : RI shN w b_O_leastCost bzT (rs, S) x)  (hk2 : ∀ (v3 : Int32), k2 v3 = some rs → WX shN w x S 45 [(0, .ref (w.1 13)), (2, .int v3)] []) : ∀ (n : Nat) (v4 : Int32) (v5 : Int32), O_leastCost_L14 F S v1 k2 n v4 v5 = some rs → WX shN w x S 14 [(0, .ref (w.1 13)), (1, .int v1), (2, .int v4), (3, .int v5)] [] := by
  intro n
  induction n with
  | zero => intro v4 v5 hf; cases hf
  | succ n ih =>
    intro v4 v5 hf
    rw [O_leastCost_L14] at hf
    refine x_iload_n C d_O_leastCost_14 3 rfl ?_
    refine x_aload_n C d_O_leastCost_15 0 rfl ?_
    refine x_get C d_O_leastCost_16 f_O_wires wd250 rfl rfl ?_
    refine x_icmp_ge C d_O_leastCost_19 hf (fun hf => ?_) (fun hf => ?_)
    · refine x_iload_n C d_O_leastCost_22 2 rfl ?_
      refine x_aload_n C d_O_leastCost_23 0 rfl ?_
      refine x_getr C d_O_leastCost_24 f_O_least wd248 rfl rfl ?_
      refine x_iload_n C d_O_leastCost_27 1 rfl ?_
      refine x_iload_n C d_O_leastCost_28 3 rfl ?_
      refine x_csr C d_O_leastCost_29 wd681 cm_O_indexOf [.int v1, .int v5] rfl rfl (by decide) (Nat.le_of_ble_eq_true rfl) hf (fun _ h => m_O_indexOf h) (fun v6 hf hb_v6 => ?_)
      refine x_csr C d_O_leastCost_32 wd684 cm_O_get [.ref (w.1 15), .int v6] rfl rfl (by decide) (Nat.le_of_ble_eq_true rfl) hf (fun _ h => m_O_get rfl h) (fun v7 hf hb_v7 => ?_)
      refine x_mmin C d_O_leastCost_35 wd699 ⟨wd700, wd89, wd701⟩ (by decide) (Nat.le_of_ble_eq_true rfl) ?_
      refine x_bi hf (fun v8 hf => ?_)
      refine x_istore_n C d_O_leastCost_38 [(2, .int v8), (0, .ref (w.1 13)), (1, .int v1), (3, .int v5)] (by rw [hnL]; decide) rfl ?_
      refine x_iinc C 1 d_O_leastCost_39 3 rfl (by rw [hnL]; decide) hf (fun v9 => [(3, .int v9), (2, .int v8), (0, .ref (w.1 13)), (1, .int v1)]) (fun _ => rfl) (fun v9 hf => ?_)
      refine x_goto C d_O_leastCost_42 ?_
      refine x_sub [2, 3, 1, 0] rfl ?_
      exact ih v8 v9 hf
    refine x_sub [0, 2] rfl ?_
    exact hk2 v4 hf
set_option maxRecDepth 4000 in
theorem m_O_leastCost {w : Ww} {l0 : Launch} {F : Nat} {S : St} {rs : Int32}  (hf : O_leastCost F S = some rs) : MI shN w l0 y_O_leastCost b_O_leastCost 4 .int 1 [.ref (w.1 13)] S rs S bzT := by
  refine MI.of (by decide) (Nat.le_of_ble_eq_true rfl) rfl (fun _ _ => rfl) (fun x hnL C hR => ?_)
  rw [O_leastCost] at hf
  refine x_iconst C d_O_leastCost_0 1 ?_
  refine x_aload_n C d_O_leastCost_1 0 rfl ?_
  refine x_get C d_O_leastCost_2 f_O_wires wd250 rfl rfl ?_
  refine x_ishl C d_O_leastCost_5 ?_
  refine x_iconst C d_O_leastCost_6 1 ?_
  refine x_isub C d_O_leastCost_7 ?_
  refine x_bi hf (fun v1 hf => ?_)
  refine x_istore_n C d_O_leastCost_8 [(1, .int v1), (0, .ref (w.1 13))] (by rw [hnL]; decide) rfl ?_
  refine x_ldc C d_O_leastCost_9 wd694 ?_
  refine x_istore_n C d_O_leastCost_11 [(2, .int 1048576), (1, .int v1), (0, .ref (w.1 13))] (by rw [hnL]; decide) rfl ?_
  refine x_iconst C d_O_leastCost_12 0 ?_
  refine x_istore_n C d_O_leastCost_13 [(3, .int 0), (2, .int 1048576), (1, .int v1), (0, .ref (w.1 13))] (by rw [hnL]; decide) rfl ?_
  refine x_sub [3, 2, 1, 0] rfl ?_
  refine w_O_leastCost_L14 hnL C hR (fun v3 hf => ?_) F 1048576 0 hf
  refine x_aload_n C d_O_leastCost_45 0 rfl ?_
  refine x_get C d_O_leastCost_46 f_O_ownCost wd251 rfl rfl ?_
  refine x_iload_n C d_O_leastCost_49 1 rfl ?_
  refine x_iadd C d_O_leastCost_50 ?_
  exact x_retR hR d_O_leastCost_51 hf trivial
set_option maxRecDepth 4000 in
theorem w_O_cheapestOf_L3 {w : Ww} {l0 : Launch} {x : Cx} {F : Nat} {p1 : Int32} {p2 : Int32} {p3 : Int32} {S : St} {rs : Int32}  (hnL : x.2.2.2.2.2.2.2.2.2.2.2.2 = 6) (C : XC shN w "NeighbourWires$Orders" b_O_cheapestOf l0 2 x) (hR : RI shN w b_O_cheapestOf bzT (rs, S) x)   : ∀ (n : Nat) (v1 : Int32), O_cheapestOf_L3 F p1 p2 p3 S n v1 = some rs → WX shN w x S 3 [(0, .ref (w.1 13)), (1, .int p1), (2, .int p2), (3, .int p3), (4, .int v1)] [] := by
  intro n
  induction n with
  | zero => intro v1 hf; cases hf
  | succ n ih =>
    intro v1 hf
    rw [O_cheapestOf_L3] at hf
    refine x_iload C d_O_cheapestOf_3 4 rfl ?_
    refine x_aload_n C d_O_cheapestOf_5 0 rfl ?_
    refine x_get C d_O_cheapestOf_6 f_O_wires wd250 rfl rfl ?_
    refine x_icmp_ge C d_O_cheapestOf_9 hf (fun hf => ?_) (fun hf => ?_)
    · refine x_iload_n C d_O_cheapestOf_12 1 rfl ?_
      refine x_iload C d_O_cheapestOf_13 4 rfl ?_
      refine x_ishr C d_O_cheapestOf_15 ?_
      refine x_iconst C d_O_cheapestOf_16 1 ?_
      refine x_iand C d_O_cheapestOf_17 ?_
      refine x_jn (fun J2 => J2  = some rs → WX shN w x S 60 [(0, .ref (w.1 13)), (1, .int p1), (2, .int p2), (3, .int p3), (4, .int v1)] []) hf (fun hf => ?_) (fun J2 hJ2 hf => ?_)
      · refine x_iinc C 1 d_O_cheapestOf_60 4 rfl (by rw [hnL]; decide) hf (fun v3 => [(4, .int v3), (0, .ref (w.1 13)), (1, .int p1), (2, .int p2), (3, .int p3)]) (fun _ => rfl) (fun v3 hf => ?_)
        refine x_goto C d_O_cheapestOf_63 ?_
        refine x_sub [1, 2, 3, 4, 0] rfl ?_
        exact ih v3 hf
      refine x_if_eq C d_O_cheapestOf_18 hf (fun hf => ?_) (fun hf => ?_)
      · exact hJ2  hf
      refine x_iload_n C d_O_cheapestOf_21 2 rfl ?_
      refine x_jn (fun J5 => ∀ (v4 : Int32), J5 v4 = some rs → WX shN w x S 49 [(0, .ref (w.1 13)), (1, .int p1), (2, .int p2), (3, .int p3), (4, .int v1)] [.int v4]) hf (fun v4 hf => ?_) (fun J5 hJ5 hf => ?_)
      · refine x_istore C d_O_cheapestOf_49 [(5, .int v4), (0, .ref (w.1 13)), (1, .int p1), (2, .int p2), (3, .int p3), (4, .int v1)] (by rw [hnL]; decide) rfl ?_
        refine x_iload C d_O_cheapestOf_51 0 rfl ?_
        refine x_iload_n C d_O_cheapestOf_53 4 rfl ?_
        refine x_icmp_ne C d_O_cheapestOf_54 hf (fun hf => ?_) (fun hf => ?_)
        · refine x_iload C d_O_cheapestOf_57 5 rfl ?_
          exact x_retR hR d_O_cheapestOf_59 hf trivial
        refine x_sub [1, 2, 3, 4, 5] rfl ?_
        exact hJ2  hf
      refine x_if_ge C d_O_cheapestOf_22 hf (fun hf => ?_) (fun hf => ?_)
      · refine x_aload_n C d_O_cheapestOf_25 0 rfl ?_
        refine x_getr C d_O_cheapestOf_26 f_O_least wd248 rfl rfl ?_
        refine x_iload_n C d_O_cheapestOf_29 1 rfl ?_
        refine x_iload C d_O_cheapestOf_30 4 rfl ?_
        refine x_csr C d_O_cheapestOf_32 wd681 cm_O_indexOf [.int p1, .int v1] rfl rfl (by decide) (Nat.le_of_ble_eq_true rfl) hf (fun _ h => m_O_indexOf h) (fun v6 hf hb_v6 => ?_)
        refine x_csr C d_O_cheapestOf_35 wd684 cm_O_get [.ref (w.1 15), .int v6] rfl rfl (by decide) (Nat.le_of_ble_eq_true rfl) hf (fun _ h => m_O_get rfl h) (fun v7 hf hb_v7 => ?_)
        refine x_goto C d_O_cheapestOf_38 ?_
        exact hJ5 v7 hf
      refine x_aload_n C d_O_cheapestOf_41 0 rfl ?_
      refine x_iload_n C d_O_cheapestOf_42 2 rfl ?_
      refine x_iload C d_O_cheapestOf_43 4 rfl ?_
      refine x_iload_n C d_O_cheapestOf_45 1 rfl ?_
      refine x_cvr C d_O_cheapestOf_46 wd695 cm_O_costVia rfl rfl [.int p2, .int v1, .int p1] rfl rfl (by decide) (Nat.le_of_ble_eq_true rfl) hf (fun _ h => m_O_costVia h) (fun v8 hf hb_v8 => ?_)
      exact hJ5 v8 hf
    refine x_iconst C d_O_cheapestOf_66 0 ?_
    exact x_retR hR d_O_cheapestOf_67 hf trivial
set_option maxRecDepth 4000 in
theorem m_O_cheapestOf {w : Ww} {l0 : Launch} {F : Nat} {S : St} {p1 : Int32} {p2 : Int32} {p3 : Int32} {rs : Int32}  (hf : O_cheapestOf F S p1 p2 p3 = some rs) : MI shN w l0 y_O_cheapestOf b_O_cheapestOf 6 .int 2 [.ref (w.1 13), .int p1, .int p2, .int p3] S rs S bzT := by
  refine MI.of (by decide) (Nat.le_of_ble_eq_true rfl) rfl (fun _ _ => rfl) (fun x hnL C hR => ?_)
  rw [O_cheapestOf] at hf
  refine x_iconst C d_O_cheapestOf_0 0 ?_
  refine x_istore C d_O_cheapestOf_1 [(4, .int 0), (0, .ref (w.1 13)), (1, .int p1), (2, .int p2), (3, .int p3)] (by rw [hnL]; decide) rfl ?_
  refine x_sub [1, 2, 3, 4, 0] rfl ?_
  exact w_O_cheapestOf_L3 hnL C hR  F 0 hf
set_option maxRecDepth 4000 in
theorem w_O_leastFigures_L28 {w : Ww} {l0 : Launch} {x : Cx} {F : Nat} {S : St} {rs : Int32}  (hnL : x.2.2.2.2.2.2.2.2.2.2.2.2 = 7) (C : XC shN w "NeighbourWires$Orders" b_O_leastFigures l0 3 x) (hR : RI shN w b_O_leastFigures bzT (rs, S) x)   : ∀ (n : Nat) (v4 : Int32) (v5 : Int32) (v6 : Int32) (v7 : Int32) (v8 : Int32), O_leastFigures_L28 F S n v4 v5 v6 v7 v8 = some rs → WX shN w x S 28 [(0, .ref (w.1 13)), (1, .int v4), (2, .int v5), (3, .int v6), (4, .int v7), (5, .int v8)] [] := by
  intro n
  induction n with
  | zero => intro v4 v5 v6 v7 v8 hf; cases hf
  | succ n ih =>
    intro v4 v5 v6 v7 v8 hf
    rw [O_leastFigures_L28] at hf
    refine x_iload C d_O_leastFigures_28 5 rfl ?_
    refine x_aload_n C d_O_leastFigures_30 0 rfl ?_
    refine x_get C d_O_leastFigures_31 f_O_wires wd250 rfl rfl ?_
    refine x_icmp_ge C d_O_leastFigures_34 hf (fun hf => ?_) (fun hf => ?_)
    · refine x_aload_n C d_O_leastFigures_37 0 rfl ?_
      refine x_iload_n C d_O_leastFigures_38 1 rfl ?_
      refine x_iload C d_O_leastFigures_39 4 rfl ?_
      refine x_iload_n C d_O_leastFigures_41 2 rfl ?_
      refine x_cvr C d_O_leastFigures_42 wd711 cm_O_cheapestOf rfl rfl [.int v4, .int v7, .int v5] rfl rfl (by decide) (Nat.le_of_ble_eq_true rfl) hf (fun _ h => m_O_cheapestOf h) (fun v9 hf hb_v9 => ?_)
      refine x_istore C d_O_leastFigures_45 [(6, .int v9), (0, .ref (w.1 13)), (1, .int v4), (2, .int v5), (3, .int v6), (4, .int v7), (5, .int v8)] (by rw [hnL]; decide) rfl ?_
      refine x_iload_n C d_O_leastFigures_47 2 rfl ?_
      refine x_iconst C d_O_leastFigures_48 1 ?_
      refine x_iload C d_O_leastFigures_49 0 rfl ?_
      refine x_ishl C d_O_leastFigures_51 ?_
      refine x_iconst C d_O_leastFigures_52 (-1) ?_
      refine x_ixor C d_O_leastFigures_53 ?_
      refine x_iand C d_O_leastFigures_54 ?_
      refine x_bi hf (fun v10 hf => ?_)
      refine x_istore_n C d_O_leastFigures_55 [(1, .int v10), (6, .int v9), (0, .ref (w.1 13)), (2, .int v5), (3, .int v6), (4, .int v7), (5, .int v8)] (by rw [hnL]; decide) rfl ?_
      refine x_aload_n C d_O_leastFigures_56 2 rfl ?_
      refine x_getr C d_O_leastFigures_57 f_O_least wd248 rfl rfl ?_
      refine x_iload_n C d_O_leastFigures_60 0 rfl ?_
      refine x_iconst C d_O_leastFigures_61 1 ?_
      refine x_iload C d_O_leastFigures_62 1 rfl ?_
      refine x_ishl C d_O_leastFigures_64 ?_
      refine x_ior C d_O_leastFigures_65 ?_
      refine x_iload C d_O_leastFigures_66 1 rfl ?_
      refine x_csr C d_O_leastFigures_68 wd681 cm_O_indexOf [.int (v10 ||| (jshl 1 v9)), .int v9] rfl rfl (by decide) (Nat.le_of_ble_eq_true rfl) hf (fun _ h => m_O_indexOf h) (fun v11 hf hb_v11 => ?_)
      refine x_csr C d_O_leastFigures_71 wd684 cm_O_get [.ref (w.1 15), .int v11] rfl rfl (by decide) (Nat.le_of_ble_eq_true rfl) hf (fun _ h => m_O_get rfl h) (fun v12 hf hb_v12 => ?_)
      refine x_istore_n C d_O_leastFigures_74 [(2, .int v12), (1, .int v10), (6, .int v9), (0, .ref (w.1 13)), (3, .int v6), (4, .int v7), (5, .int v8)] (by rw [hnL]; decide) rfl ?_
      refine x_iload_n C d_O_leastFigures_75 4 rfl ?_
      refine x_bipush C d_O_leastFigures_76 10 ?_
      refine x_imul C d_O_leastFigures_78 ?_
      refine x_iload C d_O_leastFigures_79 2 rfl ?_
      refine x_iadd C d_O_leastFigures_81 ?_
      refine x_bi hf (fun v13 hf => ?_)
      refine x_istore_n C d_O_leastFigures_82 [(3, .int v13), (2, .int v12), (1, .int v10), (6, .int v9), (0, .ref (w.1 13)), (4, .int v7), (5, .int v8)] (by rw [hnL]; decide) rfl ?_
      refine x_iload C d_O_leastFigures_83 3 rfl ?_
      refine x_istore C d_O_leastFigures_85 [(4, .int v9), (3, .int v13), (2, .int v12), (1, .int v10), (6, .int v9), (0, .ref (w.1 13)), (5, .int v8)] (by rw [hnL]; decide) rfl ?_
      refine x_iinc C 1 d_O_leastFigures_87 6 rfl (by rw [hnL]; decide) hf (fun v14 => [(5, .int v14), (4, .int v9), (3, .int v13), (2, .int v12), (1, .int v10), (6, .int v9), (0, .ref (w.1 13))]) (fun _ => rfl) (fun v14 hf => ?_)
      refine x_goto C d_O_leastFigures_90 ?_
      refine x_sub [6, 4, 3, 2, 1, 0] rfl ?_
      exact ih v10 v12 v13 v9 v14 hf
    refine x_iload_n C d_O_leastFigures_93 3 rfl ?_
    exact x_retR hR d_O_leastFigures_94 hf trivial
set_option maxRecDepth 4000 in
theorem m_O_leastFigures {w : Ww} {l0 : Launch} {F : Nat} {S : St} {rs : Int32}  (hf : O_leastFigures F S = some rs) : MI shN w l0 y_O_leastFigures b_O_leastFigures 7 .int 3 [.ref (w.1 13)] S rs S bzT := by
  refine MI.of (by decide) (Nat.le_of_ble_eq_true rfl) rfl (fun _ _ => rfl) (fun x hnL C hR => ?_)
  rw [O_leastFigures] at hf
  refine x_iconst C d_O_leastFigures_0 1 ?_
  refine x_aload_n C d_O_leastFigures_1 0 rfl ?_
  refine x_get C d_O_leastFigures_2 f_O_wires wd250 rfl rfl ?_
  refine x_ishl C d_O_leastFigures_5 ?_
  refine x_iconst C d_O_leastFigures_6 1 ?_
  refine x_isub C d_O_leastFigures_7 ?_
  refine x_bi hf (fun v1 hf => ?_)
  refine x_istore_n C d_O_leastFigures_8 [(1, .int v1), (0, .ref (w.1 13))] (by rw [hnL]; decide) rfl ?_
  refine x_aload_n C d_O_leastFigures_9 1 rfl ?_
  refine x_cvr C d_O_leastFigures_10 wd710 cm_O_leastCost rfl rfl [] rfl rfl (by decide) (Nat.le_of_ble_eq_true rfl) hf (fun _ h => m_O_leastCost h) (fun v2 hf hb_v2 => ?_)
  refine x_aload_n C d_O_leastFigures_13 1 rfl ?_
  refine x_get C d_O_leastFigures_14 f_O_ownCost wd251 rfl rfl ?_
  refine x_isub C d_O_leastFigures_17 ?_
  refine x_bi hf (fun v3 hf => ?_)
  refine x_istore_n C d_O_leastFigures_18 [(2, .int v3), (1, .int v1), (0, .ref (w.1 13))] (by rw [hnL]; decide) rfl ?_
  refine x_iconst C d_O_leastFigures_19 0 ?_
  refine x_istore_n C d_O_leastFigures_20 [(3, .int 0), (2, .int v3), (1, .int v1), (0, .ref (w.1 13))] (by rw [hnL]; decide) rfl ?_
  refine x_bipush C d_O_leastFigures_21 (-4) ?_
  refine x_istore C d_O_leastFigures_23 [(4, .int (-4)), (3, .int 0), (2, .int v3), (1, .int v1), (0, .ref (w.1 13))] (by rw [hnL]; decide) rfl ?_
  refine x_iconst C d_O_leastFigures_25 0 ?_
  refine x_istore C d_O_leastFigures_26 [(5, .int 0), (4, .int (-4)), (3, .int 0), (2, .int v3), (1, .int v1), (0, .ref (w.1 13))] (by rw [hnL]; decide) rfl ?_
  refine x_sub [5, 4, 3, 2, 1, 0] rfl ?_
  exact w_O_leastFigures_L28 hnL C hR  F v1 v3 0 (-4) 0 hf
set_option maxRecDepth 4000 in
theorem m_N_best {w : Ww} {l0 : Launch} {F : Nat} {S : St} {p1 : Int32} {r : Int32} {S9 : St}  (hf : N_best F S p1 = some (r, S9)) : MI shN w l0 y_N_best b_N_best 2 .int 4 [.ref (w.1 0), .int p1] S r S9 bzT := by
  refine MI.of (by decide) (Nat.le_of_ble_eq_true rfl) rfl (fun _ _ => rfl) (fun x hnL C hR => ?_)
  rw [N_best] at hf
  refine x_iload_n C d_N_best_0 1 rfl ?_
  refine x_if_lt C d_N_best_1 hf (fun hf => ?_) (fun hf => ?_)
  · refine x_iconst C d_N_best_9 (-1) ?_
    exact hR _ _ _ _ d_N_best_10.1 hf trivial
  refine x_iload_n C d_N_best_4 1 rfl ?_
  refine x_iconst C d_N_best_5 1 ?_
  refine x_icmp_le C d_N_best_6 hf (fun hf => ?_) (fun hf => ?_)
  · refine x_iconst C d_N_best_9 (-1) ?_
    exact hR _ _ _ _ d_N_best_10.1 hf trivial
  refine x_aload_n C d_N_best_11 0 rfl ?_
  refine x_getr C d_N_best_12 f_N_orders wd340 rfl rfl ?_
  refine x_cvv C d_N_best_15 wd668 cm_O_search rfl rfl [] rfl rfl (by decide) (Nat.le_of_ble_eq_true rfl) hf (fun _ h => m_O_search h) (fun S1 hf => ?_)
  refine x_iload_n C d_N_best_18 1 rfl ?_
  refine x_if_ne C d_N_best_19 hf (fun hf => ?_) (fun hf => ?_)
  · refine x_aload_n C d_N_best_22 0 rfl ?_
    refine x_getr C d_N_best_23 f_N_orders wd340 rfl rfl ?_
    refine x_cvr C d_N_best_26 wd702 cm_O_leastCost rfl rfl [] rfl rfl (by decide) (Nat.le_of_ble_eq_true rfl) hf (fun _ h => m_O_leastCost h) (fun v2 hf hb_v2 => ?_)
    refine x_goto C d_N_best_29 ?_
    exact hR _ _ _ _ d_N_best_39.1 hf trivial
  refine x_aload_n C d_N_best_32 0 rfl ?_
  refine x_getr C d_N_best_33 f_N_orders wd340 rfl rfl ?_
  refine x_cvr C d_N_best_36 wd706 cm_O_leastFigures rfl rfl [] rfl rfl (by decide) (Nat.le_of_ble_eq_true rfl) hf (fun _ h => m_O_leastFigures h) (fun v3 hf hb_v3 => ?_)
  exact hR _ _ _ _ d_N_best_39.1 hf trivial
set_option maxRecDepth 4000 in
theorem m_N_isSlow {w : Ww} {l0 : Launch} {F : Nat} {S : St} {p1 : Int32} {rs : Int32}  (hf : N_isSlow F S p1 = some rs) : MI shN w l0 y_N_isSlow b_N_isSlow 1 .boolean 0 [.int p1] S rs S bz01 := by
  refine MI.of (by decide) (Nat.le_of_ble_eq_true rfl) rfl (fun v hb => by rcases hb with rfl | rfl <;> decide) (fun x hnL C hR => ?_)
  rw [N_isSlow] at hf
  refine x_iload_n C d_N_isSlow_0 0 rfl ?_
  refine x_jn (fun J1 => J1  = some rs → WX shN w x S 13 [] []) hf (fun hf => ?_) (fun J1 hJ1 hf => ?_)
  · refine x_iconst C d_N_isSlow_13 0 ?_
    exact x_retR hR d_N_isSlow_14 hf (Or.inl rfl)
  refine x_if_lt C d_N_isSlow_1 hf (fun hf => ?_) (fun hf => ?_)
  · refine x_sub [] rfl ?_
    exact hJ1  hf
  refine x_iload_n C d_N_isSlow_4 0 rfl ?_
  refine x_iconst C d_N_isSlow_5 4 ?_
  refine x_icmp_gt C d_N_isSlow_6 hf (fun hf => ?_) (fun hf => ?_)
  · refine x_sub [] rfl ?_
    exact hJ1  hf
  refine x_iconst C d_N_isSlow_9 1 ?_
  refine x_goto C d_N_isSlow_10 ?_
  exact x_retR hR d_N_isSlow_14 hf (Or.inr rfl)
set_option maxRecDepth 4000 in
theorem w_P_layOut_L2 {w : Ww} {l0 : Launch} {x : Cx} {F : Nat} {P : Nat} {rs : St}  (hnL : x.2.2.2.2.2.2.2.2.2.2.2.2 = 2) (C : XC shN w "NeighbourWires$Plan" b_P_layOut l0 2 x) (hR : RV shN w b_P_layOut rs x) (hP : isP P)  : ∀ (n : Nat) (S1 : St) (v2 : Int32), P_layOut_L2 F P n S1 v2 = some rs → WX shN w x S1 2 [(0, .ref (w.1 P)), (1, .int v2)] [] := by
  intro n
  induction n with
  | zero => intro S1 v2 hf; cases hf
  | succ n ih =>
    intro S1 v2 hf
    rw [P_layOut_L2] at hf
    refine x_iload_n C d_P_layOut_2 1 rfl ?_
    refine x_aload_n C d_P_layOut_3 0 rfl ?_
    refine x_getr C d_P_layOut_4 f_P_laid wd134 hP.1 rfl ?_
    refine x_alen C (40) d_P_layOut_7 hP.2.2.2 rfl (by decide) ?_
    refine x_icmp_ge C d_P_layOut_8 hf (fun hf => ?_) (fun hf => ?_)
    · refine x_aload_n C d_P_layOut_11 0 rfl ?_
      refine x_getr C d_P_layOut_12 f_P_laid wd134 hP.1 rfl ?_
      refine x_iload_n C d_P_layOut_15 1 rfl ?_
      refine x_iload_n C d_P_layOut_16 1 rfl ?_
      refine x_aload_n C d_P_layOut_17 0 rfl ?_
      refine x_get C d_P_layOut_18 f_P_length wd127 hP.1 rfl ?_
      refine x_jn (fun J4 => ∀ (v3 : Int32), J4 v3 = some rs → WX shN w x S1 37 [(0, .ref (w.1 P)), (1, .int v2)] [.int v3, .int v2, .ref (w.1 (P + 3))]) hf (fun v3 hf => ?_) (fun J4 hJ4 hf => ?_)
      · refine x_iast C d_P_layOut_37 hP.2.2.2 hf (fun S5 hf => ?_)
        refine x_iinc C 1 d_P_layOut_38 1 rfl (by rw [hnL]; decide) hf (fun v6 => [(1, .int v6), (0, .ref (w.1 P))]) (fun _ => rfl) (fun v6 hf => ?_)
        refine x_goto C d_P_layOut_41 ?_
        refine x_sub [1, 0] rfl ?_
        exact ih S5 v6 hf
      refine x_icmp_ge C d_P_layOut_21 hf (fun hf => ?_) (fun hf => ?_)
      · refine x_aload_n C d_P_layOut_24 0 rfl ?_
        refine x_aload_n C d_P_layOut_25 0 rfl ?_
        refine x_iload_n C d_P_layOut_26 1 rfl ?_
        refine x_cvr C d_P_layOut_27 wd730 cm_P_wordAt rfl hP.1 [.int v2] rfl rfl (by decide) (Nat.le_of_ble_eq_true rfl) hf (fun _ h => m_P_wordAt hP h) (fun v7 hf hb_v7 => ?_)
        refine x_cvr C d_P_layOut_30 wd731 cm_P_byPlaces rfl hP.1 [.int v7] rfl rfl (by decide) (Nat.le_of_ble_eq_true rfl) hf (fun _ h => m_P_byPlaces hP h) (fun v8 hf hb_v8 => ?_)
        refine x_goto C d_P_layOut_33 ?_
        exact hJ4 v8 hf
      refine x_iconst C d_P_layOut_36 0 ?_
      exact hJ4 0 hf
    exact hR _ _ _ d_P_layOut_44.1 hf
set_option maxRecDepth 4000 in
theorem m_P_layOut {w : Ww} {l0 : Launch} {F : Nat} {P : Nat} {S : St} {rs : St} (hP : isP P) (hf : P_layOut F P S = some rs) : MV shN w l0 y_P_layOut b_P_layOut 2 2 [.ref (w.1 P)] S rs := by
  refine MV.of (by decide) (Nat.le_of_ble_eq_true rfl) rfl (fun x hnL C hR => ?_)
  rw [P_layOut] at hf
  refine x_iconst C d_P_layOut_0 0 ?_
  refine x_istore_n C d_P_layOut_1 [(1, .int 0), (0, .ref (w.1 P))] (by rw [hnL]; decide) rfl ?_
  refine x_sub [1, 0] rfl ?_
  exact w_P_layOut_L2 hnL C hR hP  F S 0 hf
set_option maxRecDepth 4000 in
theorem m_P_laidBefore {w : Ww} {l0 : Launch} {F : Nat} {P : Nat} {S : St} {p1 : Int32} {rs : Int32} (hP : isP P) (hf : P_laidBefore F P S p1 = some rs) : MI shN w l0 y_P_laidBefore b_P_laidBefore 2 .int 0 [.ref (w.1 P), .int p1] S rs S bzT := by
  refine MI.of (by decide) (Nat.le_of_ble_eq_true rfl) rfl (fun _ _ => rfl) (fun x hnL C hR => ?_)
  rw [P_laidBefore] at hf
  refine x_iload_n C d_P_laidBefore_0 1 rfl ?_
  refine x_iconst C d_P_laidBefore_1 1 ?_
  refine x_jn (fun J1 => J1  = some rs → WX shN w x S 25 [] []) hf (fun hf => ?_) (fun J1 hJ1 hf => ?_)
  · refine x_iconst C d_P_laidBefore_25 0 ?_
    exact x_retR hR d_P_laidBefore_26 hf trivial
  refine x_icmp_lt C d_P_laidBefore_2 hf (fun hf => ?_) (fun hf => ?_)
  · refine x_sub [] rfl ?_
    exact hJ1  hf
  refine x_iload_n C d_P_laidBefore_5 1 rfl ?_
  refine x_aload_n C d_P_laidBefore_6 0 rfl ?_
  refine x_getr C d_P_laidBefore_7 f_P_laid wd134 hP.1 rfl ?_
  refine x_alen C (40) d_P_laidBefore_10 hP.2.2.2 rfl (by decide) ?_
  refine x_icmp_gt C d_P_laidBefore_11 hf (fun hf => ?_) (fun hf => ?_)
  · refine x_sub [] rfl ?_
    exact hJ1  hf
  refine x_aload_n C d_P_laidBefore_14 0 rfl ?_
  refine x_getr C d_P_laidBefore_15 f_P_laid wd134 hP.1 rfl ?_
  refine x_iload_n C d_P_laidBefore_18 1 rfl ?_
  refine x_iconst C d_P_laidBefore_19 1 ?_
  refine x_isub C d_P_laidBefore_20 ?_
  refine x_iald C d_P_laidBefore_21 hP.2.2.2 hf (fun hf => ?_)
  refine x_goto C d_P_laidBefore_22 ?_
  exact x_retR hR d_P_laidBefore_26 hf trivial
set_option maxRecDepth 4000 in
theorem w_N_slowestBehind_L4 {w : Ww} {l0 : Launch} {x : Cx} {F : Nat} {p1 : Int32} {rs : (Int32 × St)}  (hnL : x.2.2.2.2.2.2.2.2.2.2.2.2 = 4) (C : XC shN w "NeighbourWires" b_N_slowestBehind l0 1 x) (hR : RI shN w b_N_slowestBehind bzT rs x)   : ∀ (n : Nat) (S1 : St) (v2 : Int32) (v3 : Int32), N_slowestBehind_L4 F p1 n S1 v2 v3 = some rs → WX shN w x S1 4 [(0, .ref (w.1 0)), (1, .int p1), (2, .int v2), (3, .int v3)] [] := by
  intro n
  induction n with
  | zero => intro S1 v2 v3 hf; cases hf
  | succ n ih =>
    intro S1 v2 v3 hf
    rw [N_slowestBehind_L4] at hf
    refine x_iload_n C d_N_slowestBehind_4 3 rfl ?_
    refine x_aload_n C d_N_slowestBehind_5 0 rfl ?_
    refine x_getr C d_N_slowestBehind_6 f_N_plan wd337 rfl rfl ?_
    refine x_get C d_N_slowestBehind_9 f_P_length wd130 rfl rfl ?_
    refine x_icmp_ge C d_N_slowestBehind_12 hf (fun hf => ?_) (fun hf => ?_)
    · refine x_aload_n C d_N_slowestBehind_15 0 rfl ?_
      refine x_getr C d_N_slowestBehind_16 f_N_change wd338 rfl rfl ?_
      refine x_aload_n C d_N_slowestBehind_19 0 rfl ?_
      refine x_getr C d_N_slowestBehind_20 f_N_plan wd337 rfl rfl ?_
      refine x_iload_n C d_N_slowestBehind_23 3 rfl ?_
      refine x_cvr C d_N_slowestBehind_24 wd737 cm_P_laidBefore rfl rfl [.int v3] rfl rfl (by decide) (Nat.le_of_ble_eq_true rfl) hf (fun _ h => m_P_laidBefore isP1 h) (fun v4 hf hb_v4 => ?_)
      refine x_aload_n C d_N_slowestBehind_27 0 rfl ?_
      refine x_getr C d_N_slowestBehind_28 f_N_plan wd337 rfl rfl ?_
      refine x_iload_n C d_N_slowestBehind_31 3 rfl ?_
      refine x_iconst C d_N_slowestBehind_32 1 ?_
      refine x_iadd C d_N_slowestBehind_33 ?_
      refine x_cvr C d_N_slowestBehind_34 wd737 cm_P_laidBefore rfl rfl [.int (v3 + 1)] rfl rfl (by decide) (Nat.le_of_ble_eq_true rfl) hf (fun _ h => m_P_laidBefore isP1 h) (fun v5 hf hb_v5 => ?_)
      refine x_aload_n C d_N_slowestBehind_37 0 rfl ?_
      refine x_getr C d_N_slowestBehind_38 f_N_plan wd337 rfl rfl ?_
      refine x_get C d_N_slowestBehind_41 f_P_wires wd113 rfl rfl ?_
      refine x_iload_n C d_N_slowestBehind_44 1 rfl ?_
      refine x_cvv C d_N_slowestBehind_45 wd597 cm_C_between rfl rfl [.int v4, .int v5, .int (S1.1 1 0), .int p1] rfl rfl (by decide) (Nat.le_of_ble_eq_true rfl) hf (fun _ h => m_C_between h) (fun S6 hf => ?_)
      refine x_iload_n C d_N_slowestBehind_48 2 rfl ?_
      refine x_aload_n C d_N_slowestBehind_49 0 rfl ?_
      refine x_getr C d_N_slowestBehind_50 f_N_change wd338 rfl rfl ?_
      refine x_cvr C d_N_slowestBehind_53 wd615 cm_C_greatestSlow rfl rfl [] rfl rfl (by decide) (Nat.le_of_ble_eq_true rfl) hf (fun _ h => m_C_greatestSlow h) (fun v7 hf hb_v7 => ?_)
      refine x_mmax C d_N_slowestBehind_56 wd661 ⟨wd662, wd89, wd663⟩ (by decide) (Nat.le_of_ble_eq_true rfl) ?_
      refine x_bi hf (fun v8 hf => ?_)
      refine x_istore_n C d_N_slowestBehind_59 [(2, .int v8), (0, .ref (w.1 0)), (1, .int p1), (3, .int v3)] (by rw [hnL]; decide) rfl ?_
      refine x_iinc C 1 d_N_slowestBehind_60 3 rfl (by rw [hnL]; decide) hf (fun v9 => [(3, .int v9), (2, .int v8), (0, .ref (w.1 0)), (1, .int p1)]) (fun _ => rfl) (fun v9 hf => ?_)
      refine x_goto C d_N_slowestBehind_63 ?_
      refine x_sub [2, 3, 1, 0] rfl ?_
      exact ih S6 v8 v9 hf
    refine x_iload_n C d_N_slowestBehind_66 2 rfl ?_
    exact hR _ _ _ _ d_N_slowestBehind_67.1 hf trivial
set_option maxRecDepth 4000 in
theorem m_N_slowestBehind {w : Ww} {l0 : Launch} {F : Nat} {S : St} {p1 : Int32} {r : Int32} {S9 : St}  (hf : N_slowestBehind F S p1 = some (r, S9)) : MI shN w l0 y_N_slowestBehind b_N_slowestBehind 4 .int 1 [.ref (w.1 0), .int p1] S r S9 bzT := by
  refine MI.of (by decide) (Nat.le_of_ble_eq_true rfl) rfl (fun _ _ => rfl) (fun x hnL C hR => ?_)
  rw [N_slowestBehind] at hf
  refine x_iconst C d_N_slowestBehind_0 0 ?_
  refine x_istore_n C d_N_slowestBehind_1 [(2, .int 0), (0, .ref (w.1 0)), (1, .int p1)] (by rw [hnL]; decide) rfl ?_
  refine x_iconst C d_N_slowestBehind_2 0 ?_
  refine x_istore_n C d_N_slowestBehind_3 [(3, .int 0), (2, .int 0), (0, .ref (w.1 0)), (1, .int p1)] (by rw [hnL]; decide) rfl ?_
  refine x_sub [2, 3, 1, 0] rfl ?_
  exact w_N_slowestBehind_L4 hnL C hR  F S 0 0 hf
set_option maxRecDepth 4000 in
theorem w_N_leastShields_L11 {w : Ww} {l0 : Launch} {x : Cx} {F : Nat} {p1 : Int32} {rs : (Int32 × St)}  (hnL : x.2.2.2.2.2.2.2.2.2.2.2.2 = 5) (C : XC shN w "NeighbourWires" b_N_leastShields l0 3 x) (hR : RI shN w b_N_leastShields bzT rs x)   : ∀ (n : Nat) (S2 : St) (v3 : Int32) (v4 : Int32), N_leastShields_L11 F p1 n S2 v3 v4 = some rs → WX shN w x S2 11 [(0, .ref (w.1 0)), (1, .int p1), (2, .int v3), (3, .int v4)] [] := by
  intro n
  induction n with
  | zero => intro S2 v3 v4 hf; cases hf
  | succ n ih =>
    intro S2 v3 v4 hf
    rw [N_leastShields_L11] at hf
    refine x_iload_n C d_N_leastShields_11 3 rfl ?_
    refine x_iconst C d_N_leastShields_12 1 ?_
    refine x_aload_n C d_N_leastShields_13 0 rfl ?_
    refine x_getr C d_N_leastShields_14 f_N_plan wd337 rfl rfl ?_
    refine x_get C d_N_leastShields_17 f_P_wires wd113 rfl rfl ?_
    refine x_iconst C d_N_leastShields_20 1 ?_
    refine x_isub C d_N_leastShields_21 ?_
    refine x_ishl C d_N_leastShields_22 ?_
    refine x_icmp_ge C d_N_leastShields_23 hf (fun hf => ?_) (fun hf => ?_)
    · refine x_iload_n C d_N_leastShields_26 2 rfl ?_
      refine x_jn (fun J6 => ∀ (v5 : Int32), J6 v5 = some rs → WX shN w x S2 46 [(0, .ref (w.1 0)), (1, .int p1), (2, .int v3), (3, .int v4)] [.int v5]) hf (fun v5 hf => ?_) (fun J6 hJ6 hf => ?_)
      · refine x_istore C d_N_leastShields_46 [(4, .int v5), (0, .ref (w.1 0)), (1, .int p1), (2, .int v3), (3, .int v4)] (by rw [hnL]; decide) rfl ?_
        refine x_iload C d_N_leastShields_48 0 rfl ?_
        refine x_jn (fun J9 => ∀ (S7 : St) (v8 : Int32), J9 S7 v8 = some rs → WX shN w x S7 64 [(0, .ref (w.1 0)), (1, .int p1), (2, .int v8), (3, .int v4)] []) hf (fun S7 v8 hf => ?_) (fun J9 hJ9 hf => ?_)
        · refine x_iinc C 1 d_N_leastShields_64 3 rfl (by rw [hnL]; decide) hf (fun v10 => [(3, .int v10), (0, .ref (w.1 0)), (1, .int p1), (2, .int v8)]) (fun _ => rfl) (fun v10 hf => ?_)
          refine x_goto C d_N_leastShields_67 ?_
          refine x_sub [1, 2, 3, 0] rfl ?_
          exact ih S7 v8 v10 hf
        refine x_if_eq C d_N_leastShields_50 hf (fun hf => ?_) (fun hf => ?_)
        · refine x_sub [1, 2, 3, 4] rfl ?_
          exact hJ9 S2 v3 hf
        refine x_aload_n C d_N_leastShields_53 1 rfl ?_
        refine x_iload_n C d_N_leastShields_54 4 rfl ?_
        refine x_cvi C d_N_leastShields_55 wd733 cm_N_slowestBehind rfl rfl [.int v4] rfl rfl (by decide) (Nat.le_of_ble_eq_true rfl) hf (fun _ _ h => m_N_slowestBehind h) (fun v11 S12 hf hb_v11 => ?_)
        refine x_iload_n C d_N_leastShields_58 2 rfl ?_
        refine x_icmp_gt C d_N_leastShields_59 hf (fun hf => ?_) (fun hf => ?_)
        · refine x_sub [1, 2, 3, 4] rfl ?_
          exact hJ9 S12 v3 hf
        refine x_iload_n C d_N_leastShields_62 4 rfl ?_
        refine x_istore_n C d_N_leastShields_63 [(2, .int v4), (4, .int v5), (0, .ref (w.1 0)), (1, .int p1), (3, .int v4)] (by rw [hnL]; decide) rfl ?_
        refine x_sub [2, 3, 0, 4] rfl ?_
        exact hJ9 S12 v4 hf
      refine x_jn (fun J13 => J13  = some rs → WX shN w x S2 41 [(0, .ref (w.1 0)), (1, .int p1), (2, .int v3), (3, .int v4)] []) hf (fun hf => ?_) (fun J13 hJ13 hf => ?_)
      · refine x_iconst C d_N_leastShields_41 1 ?_
        refine x_goto C d_N_leastShields_42 ?_
        exact hJ6 1 hf
      refine x_if_lt C d_N_leastShields_27 hf (fun hf => ?_) (fun hf => ?_)
      · exact hJ13  hf
      refine x_iload_n C d_N_leastShields_30 3 rfl ?_
      refine x_csr C d_N_leastShields_31 wd732 cm_Ji_bitCount [.int v4] rfl rfl (by decide) (Nat.le_of_ble_eq_true rfl) hf (fun _ h => m_Ji_bitCount h) (fun v14 hf hb_v14 => ?_)
      refine x_iload_n C d_N_leastShields_34 2 rfl ?_
      refine x_csr C d_N_leastShields_35 wd732 cm_Ji_bitCount [.int v3] rfl rfl (by decide) (Nat.le_of_ble_eq_true rfl) hf (fun _ h => m_Ji_bitCount h) (fun v15 hf hb_v15 => ?_)
      refine x_icmp_ge C d_N_leastShields_38 hf (fun hf => ?_) (fun hf => ?_)
      · exact hJ13  hf
      refine x_iconst C d_N_leastShields_45 0 ?_
      exact hJ6 0 hf
    refine x_iload_n C d_N_leastShields_70 2 rfl ?_
    exact hR _ _ _ _ d_N_leastShields_71.1 hf trivial
set_option maxRecDepth 4000 in
theorem m_N_leastShields {w : Ww} {l0 : Launch} {F : Nat} {S : St} {p1 : Int32} {r : Int32} {S9 : St}  (hf : N_leastShields F S p1 = some (r, S9)) : MI shN w l0 y_N_leastShields b_N_leastShields 5 .int 3 [.ref (w.1 0), .int p1] S r S9 bzT := by
  refine MI.of (by decide) (Nat.le_of_ble_eq_true rfl) rfl (fun _ _ => rfl) (fun x hnL C hR => ?_)
  rw [N_leastShields] at hf
  refine x_aload_n C d_N_leastShields_0 0 rfl ?_
  refine x_getr C d_N_leastShields_1 f_N_plan wd337 rfl rfl ?_
  refine x_cvv C d_N_leastShields_4 wd726 cm_P_layOut rfl rfl [] rfl rfl (by decide) (Nat.le_of_ble_eq_true rfl) hf (fun _ h => m_P_layOut isP1 h) (fun S1 hf => ?_)
  refine x_iconst C d_N_leastShields_7 (-1) ?_
  refine x_istore_n C d_N_leastShields_8 [(2, .int (-1)), (0, .ref (w.1 0)), (1, .int p1)] (by rw [hnL]; decide) rfl ?_
  refine x_iconst C d_N_leastShields_9 0 ?_
  refine x_istore_n C d_N_leastShields_10 [(3, .int 0), (2, .int (-1)), (0, .ref (w.1 0)), (1, .int p1)] (by rw [hnL]; decide) rfl ?_
  refine x_sub [2, 3, 1, 0] rfl ?_
  exact w_N_leastShields_L11 hnL C hR  F S1 (-1) 0 hf
set_option maxRecDepth 4000 in
theorem m_N_shields {w : Ww} {l0 : Launch} {F : Nat} {S : St} {p1 : Int32} {p2 : Int32} {r : Int32} {S9 : St}  (hf : N_shields F S p1 p2 = some (r, S9)) : MI shN w l0 y_N_shields b_N_shields 4 .int 4 [.ref (w.1 0), .int p1, .int p2] S r S9 bzT := by
  refine MI.of (by decide) (Nat.le_of_ble_eq_true rfl) rfl (fun _ _ => rfl) (fun x hnL C hR => ?_)
  rw [N_shields] at hf
  refine x_iload_n C d_N_shields_0 1 rfl ?_
  refine x_csr C d_N_shields_1 wd719 cm_N_isSlow [.int p1] rfl rfl (by decide) (Nat.le_of_ble_eq_true rfl) hf (fun _ h => m_N_isSlow h) (fun v1 hf hb_v1 => ?_)
  refine x_if_eq C d_N_shields_4 hf (fun hf => ?_) (fun hf => ?_)
  · refine x_iconst C d_N_shields_16 (-1) ?_
    exact hR _ _ _ _ d_N_shields_17.1 hf trivial
  refine x_iload_n C d_N_shields_7 2 rfl ?_
  refine x_if_lt C d_N_shields_8 hf (fun hf => ?_) (fun hf => ?_)
  · refine x_iconst C d_N_shields_16 (-1) ?_
    exact hR _ _ _ _ d_N_shields_17.1 hf trivial
  refine x_iload_n C d_N_shields_11 2 rfl ?_
  refine x_iconst C d_N_shields_12 1 ?_
  refine x_icmp_le C d_N_shields_13 hf (fun hf => ?_) (fun hf => ?_)
  · refine x_iconst C d_N_shields_16 (-1) ?_
    exact hR _ _ _ _ d_N_shields_17.1 hf trivial
  refine x_aload_n C d_N_shields_18 0 rfl ?_
  refine x_iload_n C d_N_shields_19 1 rfl ?_
  refine x_cvi C d_N_shields_20 wd722 cm_N_leastShields rfl rfl [.int p1] rfl rfl (by decide) (Nat.le_of_ble_eq_true rfl) hf (fun _ _ h => m_N_leastShields h) (fun v2 S3 hf hb_v2 => ?_)
  refine x_istore_n C d_N_shields_23 [(3, .int v2), (0, .ref (w.1 0)), (1, .int p1), (2, .int p2)] (by rw [hnL]; decide) rfl ?_
  refine x_iload_n C d_N_shields_24 0 rfl ?_
  refine x_if_ge C d_N_shields_25 hf (fun hf => ?_) (fun hf => ?_)
  · refine x_bipush C d_N_shields_28 (-4) ?_
    exact hR _ _ _ _ d_N_shields_30.1 hf trivial
  refine x_iload_n C d_N_shields_31 3 rfl ?_
  refine x_if_ne C d_N_shields_32 hf (fun hf => ?_) (fun hf => ?_)
  · refine x_iload_n C d_N_shields_35 0 rfl ?_
    refine x_csr C d_N_shields_36 wd732 cm_Ji_bitCount [.int v2] rfl rfl (by decide) (Nat.le_of_ble_eq_true rfl) hf (fun _ h => m_Ji_bitCount h) (fun v4 hf hb_v4 => ?_)
    refine x_goto C d_N_shields_39 ?_
    exact hR _ _ _ _ d_N_shields_43.1 hf trivial
  refine x_iload_n C d_N_shields_42 0 rfl ?_
  exact hR _ _ _ _ d_N_shields_43.1 hf trivial
set_option maxRecDepth 4000 in
theorem m_U_lying {w : Ww} {l0 : Launch} {F : Nat} {S : St} {p1 : Int32} {p2 : Int32} {rs : Int32}  (hf : U_lying F S p1 p2 = some rs) : MI shN w l0 y_U_lying b_U_lying 4 .int 1 [.ref (w.1 16), .int p1, .int p2] S rs S bzT := by
  refine MI.of (by decide) (Nat.le_of_ble_eq_true rfl) rfl (fun _ _ => rfl) (fun x hnL C hR => ?_)
  rw [U_lying] at hf
  refine x_iconst C d_U_lying_0 1 ?_
  refine x_aload_n C d_U_lying_1 0 rfl ?_
  refine x_getr C d_U_lying_2 f_U_plan wd277 rfl rfl ?_
  refine x_get C d_U_lying_5 f_P_wires wd111 rfl rfl ?_
  refine x_iconst C d_U_lying_8 1 ?_
  refine x_iadd C d_U_lying_9 ?_
  refine x_ishl C d_U_lying_10 ?_
  refine x_iconst C d_U_lying_11 1 ?_
  refine x_isub C d_U_lying_12 ?_
  refine x_bi hf (fun v1 hf => ?_)
  refine x_istore_n C d_U_lying_13 [(3, .int v1), (0, .ref (w.1 16)), (1, .int p1), (2, .int p2)] (by rw [hnL]; decide) rfl ?_
  refine x_iload_n C d_U_lying_14 3 rfl ?_
  refine x_iconst C d_U_lying_15 1 ?_
  refine x_icmp_ne C d_U_lying_16 hf (fun hf => ?_) (fun hf => ?_)
  · refine x_aload_n C d_U_lying_19 1 rfl ?_
    refine x_getr C d_U_lying_20 f_U_plan wd277 rfl rfl ?_
    refine x_iload_n C d_U_lying_23 2 rfl ?_
    refine x_cvr C d_U_lying_24 wd762 cm_P_laidBefore rfl rfl [.int p1] rfl rfl (by decide) (Nat.le_of_ble_eq_true rfl) hf (fun _ h => m_P_laidBefore isP1 h) (fun v2 hf hb_v2 => ?_)
    refine x_iload_n C d_U_lying_27 0 rfl ?_
    refine x_ixor C d_U_lying_28 ?_
    refine x_goto C d_U_lying_29 ?_
    exact x_retR hR d_U_lying_40 hf trivial
  refine x_aload_n C d_U_lying_32 1 rfl ?_
  refine x_getr C d_U_lying_33 f_U_plan wd277 rfl rfl ?_
  refine x_iload_n C d_U_lying_36 2 rfl ?_
  refine x_cvr C d_U_lying_37 wd762 cm_P_laidBefore rfl rfl [.int p1] rfl rfl (by decide) (Nat.le_of_ble_eq_true rfl) hf (fun _ h => m_P_laidBefore isP1 h) (fun v3 hf hb_v3 => ?_)
  exact x_retR hR d_U_lying_40 hf trivial
set_option maxRecDepth 4000 in
theorem m_U_movesOtherwise {w : Ww} {l0 : Launch} {F : Nat} {S : St} {p1 : Int32} {p2 : Int32} {rs : Int32}  (hf : U_movesOtherwise F S p1 p2 = some rs) : MI shN w l0 y_U_movesOtherwise b_U_movesOtherwise 4 .int 2 [.ref (w.1 16), .int p1, .int p2] S rs S bzT := by
  refine MI.of (by decide) (Nat.le_of_ble_eq_true rfl) rfl (fun _ _ => rfl) (fun x hnL C hR => ?_)
  rw [U_movesOtherwise] at hf
  refine x_iconst C d_U_movesOtherwise_0 1 ?_
  refine x_aload_n C d_U_movesOtherwise_1 0 rfl ?_
  refine x_getr C d_U_movesOtherwise_2 f_U_plan wd277 rfl rfl ?_
  refine x_get C d_U_movesOtherwise_5 f_P_wires wd111 rfl rfl ?_
  refine x_ishl C d_U_movesOtherwise_8 ?_
  refine x_iconst C d_U_movesOtherwise_9 1 ?_
  refine x_isub C d_U_movesOtherwise_10 ?_
  refine x_bi hf (fun v1 hf => ?_)
  refine x_istore_n C d_U_movesOtherwise_11 [(3, .int v1), (0, .ref (w.1 16)), (1, .int p1), (2, .int p2)] (by rw [hnL]; decide) rfl ?_
  refine x_aload_n C d_U_movesOtherwise_12 1 rfl ?_
  refine x_iload_n C d_U_movesOtherwise_13 2 rfl ?_
  refine x_iload_n C d_U_movesOtherwise_14 3 rfl ?_
  refine x_cvr C d_U_movesOtherwise_15 wd758 cm_U_lying rfl rfl [.int p1, .int p2] rfl rfl (by decide) (Nat.le_of_ble_eq_true rfl) hf (fun _ h => m_U_lying h) (fun v2 hf hb_v2 => ?_)
  refine x_aload_n C d_U_movesOtherwise_18 1 rfl ?_
  refine x_iload_n C d_U_movesOtherwise_19 2 rfl ?_
  refine x_iconst C d_U_movesOtherwise_20 1 ?_
  refine x_iadd C d_U_movesOtherwise_21 ?_
  refine x_iconst C d_U_movesOtherwise_22 0 ?_
  refine x_cvr C d_U_movesOtherwise_23 wd758 cm_U_lying rfl rfl [.int (p1 + 1), .int 0] rfl rfl (by decide) (Nat.le_of_ble_eq_true rfl) hf (fun _ h => m_U_lying h) (fun v3 hf hb_v3 => ?_)
  refine x_ixor C d_U_movesOtherwise_26 ?_
  refine x_iload_n C d_U_movesOtherwise_27 0 rfl ?_
  refine x_iand C d_U_movesOtherwise_28 ?_
  refine x_csr C d_U_movesOtherwise_29 wd763 cm_Ji_bitCount [.int ((v2 ^^^ v3) &&& v1)] rfl rfl (by decide) (Nat.le_of_ble_eq_true rfl) hf (fun _ h => m_Ji_bitCount h) (fun v4 hf hb_v4 => ?_)
  exact x_retR hR d_U_movesOtherwise_32 hf trivial
set_option maxRecDepth 4000 in
theorem m_U_costOf {w : Ww} {l0 : Launch} {F : Nat} {S : St} {p1 : Int32} {p2 : Int32} {p3 : Int32} {r : Int32} {S9 : St}  (hf : U_costOf F S p1 p2 p3 = some (r, S9)) : MI shN w l0 y_U_costOf b_U_costOf 4 .int 3 [.ref (w.1 16), .int p1, .int p2, .int p3] S r S9 bzT := by
  refine MI.of (by decide) (Nat.le_of_ble_eq_true rfl) rfl (fun _ _ => rfl) (fun x hnL C hR => ?_)
  rw [U_costOf] at hf
  refine x_aload_n C d_U_costOf_0 0 rfl ?_
  refine x_getr C d_U_costOf_1 f_U_change wd278 rfl rfl ?_
  refine x_aload_n C d_U_costOf_4 0 rfl ?_
  refine x_iload_n C d_U_costOf_5 1 rfl ?_
  refine x_iload_n C d_U_costOf_6 2 rfl ?_
  refine x_cvr C d_U_costOf_7 wd758 cm_U_lying rfl rfl [.int p1, .int p2] rfl rfl (by decide) (Nat.le_of_ble_eq_true rfl) hf (fun _ h => m_U_lying h) (fun v1 hf hb_v1 => ?_)
  refine x_aload_n C d_U_costOf_10 0 rfl ?_
  refine x_iload_n C d_U_costOf_11 1 rfl ?_
  refine x_iconst C d_U_costOf_12 1 ?_
  refine x_iadd C d_U_costOf_13 ?_
  refine x_iload_n C d_U_costOf_14 3 rfl ?_
  refine x_cvr C d_U_costOf_15 wd758 cm_U_lying rfl rfl [.int (p1 + 1), .int p3] rfl rfl (by decide) (Nat.le_of_ble_eq_true rfl) hf (fun _ h => m_U_lying h) (fun v2 hf hb_v2 => ?_)
  refine x_aload_n C d_U_costOf_18 0 rfl ?_
  refine x_getr C d_U_costOf_19 f_U_plan wd277 rfl rfl ?_
  refine x_get C d_U_costOf_22 f_P_wires wd111 rfl rfl ?_
  refine x_iconst C d_U_costOf_25 1 ?_
  refine x_iadd C d_U_costOf_26 ?_
  refine x_aload_n C d_U_costOf_27 0 rfl ?_
  refine x_getr C d_U_costOf_28 f_U_plan wd277 rfl rfl ?_
  refine x_get C d_U_costOf_31 f_P_shields wd125 rfl rfl ?_
  refine x_cvv C d_U_costOf_34 wd768 cm_C_between rfl rfl [.int v1, .int v2, .int ((S.1 1 0) + 1), .int (S.1 1 3)] rfl rfl (by decide) (Nat.le_of_ble_eq_true rfl) hf (fun _ h => m_C_between h) (fun S3 hf => ?_)
  refine x_aload_n C d_U_costOf_37 0 rfl ?_
  refine x_getr C d_U_costOf_38 f_U_change wd278 rfl rfl ?_
  refine x_aload_n C d_U_costOf_41 0 rfl ?_
  refine x_getr C d_U_costOf_42 f_U_plan wd277 rfl rfl ?_
  refine x_get C d_U_costOf_45 f_P_own wd116 rfl rfl ?_
  refine x_aload_n C d_U_costOf_48 0 rfl ?_
  refine x_getr C d_U_costOf_49 f_U_plan wd277 rfl rfl ?_
  refine x_get C d_U_costOf_52 f_P_side wd121 rfl rfl ?_
  refine x_cvr C d_U_costOf_55 wd769 cm_C_cost rfl rfl [.int (S3.1 1 1), .int (S3.1 1 2)] rfl rfl (by decide) (Nat.le_of_ble_eq_true rfl) hf (fun _ h => m_C_cost h) (fun v4 hf hb_v4 => ?_)
  exact hR _ _ _ _ d_U_costOf_58.1 hf trivial
set_option maxRecDepth 4000 in
theorem m_U_isTurned {w : Ww} {l0 : Launch} {F : Nat} {S : St} {p1 : Int32} {p2 : Int32} {p3 : Int32} {r : Int32} {S9 : St}  (hf : U_isTurned F S p1 p2 p3 = some (r, S9)) : MI shN w l0 y_U_isTurned b_U_isTurned 4 .boolean 4 [.ref (w.1 16), .int p1, .int p2, .int p3] S r S9 bz01 := by
  refine MI.of (by decide) (Nat.le_of_ble_eq_true rfl) rfl (fun v hb => by rcases hb with rfl | rfl <;> decide) (fun x hnL C hR => ?_)
  rw [U_isTurned] at hf
  refine x_iload_n C d_U_isTurned_0 1 rfl ?_
  rcases x_ite hf with ⟨q1, hf⟩ | ⟨q1, hf⟩
  · refine x_look C d_U_isTurned_1 (off := 27) (t := 28) (by decide) (by rw [q1] <;> decide) (by decide) ?_
    refine x_iconst C d_U_isTurned_28 0 ?_
    exact hR _ _ _ _ d_U_isTurned_29.1 hf (Or.inl rfl)
  rcases x_ite hf with ⟨q3, hf⟩ | ⟨q3, hf⟩
  · refine x_look C d_U_isTurned_1 (off := 29) (t := 30) (by decide) (by rw [q3] <;> decide) (by decide) ?_
    refine x_iconst C d_U_isTurned_30 2 ?_
    refine x_aload_n C d_U_isTurned_31 0 rfl ?_
    refine x_iload_n C d_U_isTurned_32 2 rfl ?_
    refine x_iload_n C d_U_isTurned_33 3 rfl ?_
    refine x_cvr C d_U_isTurned_34 wd754 cm_U_movesOtherwise rfl rfl [.int p2, .int p3] rfl rfl (by decide) (Nat.le_of_ble_eq_true rfl) hf (fun _ h => m_U_movesOtherwise h) (fun v2 hf hb_v2 => ?_)
    refine x_imul C d_U_isTurned_37 ?_
    refine x_aload_n C d_U_isTurned_38 0 rfl ?_
    refine x_getr C d_U_isTurned_39 f_U_plan wd277 rfl rfl ?_
    refine x_get C d_U_isTurned_42 f_P_wires wd111 rfl rfl ?_
    refine x_icmp_le C d_U_isTurned_45 hf (fun hf => ?_) (fun hf => ?_)
    · refine x_iconst C d_U_isTurned_48 1 ?_
      refine x_goto C d_U_isTurned_49 ?_
      exact hR _ _ _ _ d_U_isTurned_53.1 hf (Or.inr rfl)
    refine x_iconst C d_U_isTurned_52 0 ?_
    exact hR _ _ _ _ d_U_isTurned_53.1 hf (Or.inl rfl)
  refine x_look C d_U_isTurned_1 (off := 53) (t := 54) (by decide) ((lv_osw q1 (by decide)).trans ((lv_osw q3 (by decide)).trans rfl)) (by decide) ?_
  refine x_aload_n C d_U_isTurned_54 0 rfl ?_
  refine x_iload_n C d_U_isTurned_55 2 rfl ?_
  refine x_iload_n C d_U_isTurned_56 3 rfl ?_
  refine x_iconst C d_U_isTurned_57 1 ?_
  refine x_cvi C d_U_isTurned_58 wd764 cm_U_costOf rfl rfl [.int p2, .int p3, .int 1] rfl rfl (by decide) (Nat.le_of_ble_eq_true rfl) hf (fun _ _ h => m_U_costOf h) (fun v4 S5 hf hb_v4 => ?_)
  refine x_aload_n C d_U_isTurned_61 0 rfl ?_
  refine x_iload_n C d_U_isTurned_62 2 rfl ?_
  refine x_iload_n C d_U_isTurned_63 3 rfl ?_
  refine x_iconst C d_U_isTurned_64 0 ?_
  refine x_cvi C d_U_isTurned_65 wd764 cm_U_costOf rfl rfl [.int p2, .int p3, .int 0] rfl rfl (by decide) (Nat.le_of_ble_eq_true rfl) hf (fun _ _ h => m_U_costOf h) (fun v6 S7 hf hb_v6 => ?_)
  refine x_icmp_ge C d_U_isTurned_68 hf (fun hf => ?_) (fun hf => ?_)
  · refine x_iconst C d_U_isTurned_71 1 ?_
    refine x_goto C d_U_isTurned_72 ?_
    exact hR _ _ _ _ d_U_isTurned_76.1 hf (Or.inr rfl)
  refine x_iconst C d_U_isTurned_75 0 ?_
  exact hR _ _ _ _ d_U_isTurned_76.1 hf (Or.inl rfl)
set_option maxRecDepth 4000 in
theorem w_U_sendAll_L32 {w : Ww} {l0 : Launch} {x : Cx} {F : Nat} {p1 : Int32} {rs : St}  (hnL : x.2.2.2.2.2.2.2.2.2.2.2.2 = 5) (C : XC shN w "NeighbourWires$Turns" b_U_sendAll l0 5 x) (hR : RV shN w b_U_sendAll rs x)   : ∀ (n : Nat) (S6 : St) (v7 : Int32) (v8 : Int32), U_sendAll_L32 F p1 n S6 v7 v8 = some rs → WX shN w x S6 32 [(0, .ref (w.1 16)), (1, .int p1), (2, .int v7), (3, .int v8)] [] := by
  intro n
  induction n with
  | zero => intro S6 v7 v8 hf; cases hf
  | succ n ih =>
    intro S6 v7 v8 hf
    rw [U_sendAll_L32] at hf
    refine x_iload_n C d_U_sendAll_32 3 rfl ?_
    refine x_aload_n C d_U_sendAll_33 0 rfl ?_
    refine x_getr C d_U_sendAll_34 f_U_plan wd277 rfl rfl ?_
    refine x_get C d_U_sendAll_37 f_P_length wd128 rfl rfl ?_
    refine x_icmp_ge C d_U_sendAll_40 hf (fun hf => ?_) (fun hf => ?_)
    · refine x_aload_n C d_U_sendAll_43 0 rfl ?_
      refine x_iload_n C d_U_sendAll_44 1 rfl ?_
      refine x_iload_n C d_U_sendAll_45 3 rfl ?_
      refine x_iload_n C d_U_sendAll_46 2 rfl ?_
      refine x_cvi C d_U_sendAll_47 wd750 cm_U_isTurned rfl rfl [.int p1, .int v8, .int v7] rfl rfl (by decide) (Nat.le_of_ble_eq_true rfl) hf (fun _ _ h => m_U_isTurned h) (fun v9 S10 hf hb_v9 => ?_)
      refine x_jn (fun J12 => ∀ (v11 : Int32), J12 v11 = some rs → WX shN w x S10 58 [(0, .ref (w.1 16)), (1, .int p1), (2, .int v7), (3, .int v8)] [.int v11]) hf (fun v11 hf => ?_) (fun J12 hJ12 hf => ?_)
      · refine x_istore C d_U_sendAll_58 [(4, .int v11), (0, .ref (w.1 16)), (1, .int p1), (2, .int v7), (3, .int v8)] (by rw [hnL]; decide) rfl ?_
        refine x_aload_n C d_U_sendAll_60 1 rfl ?_
        refine x_dup C d_U_sendAll_61 rfl ?_
        refine x_get C d_U_sendAll_62 f_U_cost wd269 rfl rfl ?_
        refine x_aload_n C d_U_sendAll_65 1 rfl ?_
        refine x_iload_n C d_U_sendAll_66 4 rfl ?_
        refine x_iload_n C d_U_sendAll_67 3 rfl ?_
        refine x_iload C d_U_sendAll_68 0 rfl ?_
        refine x_cvi C d_U_sendAll_70 wd764 cm_U_costOf rfl rfl [.int v8, .int v7, .int v11] rfl rfl (by decide) (Nat.le_of_ble_eq_true rfl) hf (fun _ _ h => m_U_costOf h) (fun v13 S14 hf hb_v13 => ?_)
        refine x_iadd C d_U_sendAll_73 ?_
        refine x_put C d_U_sendAll_74 f_U_cost wd269 rfl rfl hf (fun S15 hf => ?_)
        refine x_aload_n C d_U_sendAll_77 1 rfl ?_
        refine x_aload_n C d_U_sendAll_78 1 rfl ?_
        refine x_get C d_U_sendAll_79 f_U_slowest wd275 rfl rfl ?_
        refine x_aload_n C d_U_sendAll_82 1 rfl ?_
        refine x_getr C d_U_sendAll_83 f_U_change wd278 rfl rfl ?_
        refine x_cvr C d_U_sendAll_86 wd770 cm_C_greatestSlow rfl rfl [] rfl rfl (by decide) (Nat.le_of_ble_eq_true rfl) hf (fun _ h => m_C_greatestSlow h) (fun v16 hf hb_v16 => ?_)
        refine x_mmax C d_U_sendAll_89 wd771 ⟨wd662, wd89, wd663⟩ (by decide) (Nat.le_of_ble_eq_true rfl) ?_
        refine x_put C d_U_sendAll_92 f_U_slowest wd275 rfl rfl hf (fun S17 hf => ?_)
        refine x_iload C d_U_sendAll_95 0 rfl ?_
        refine x_iconst C d_U_sendAll_97 1 ?_
        refine x_jn (fun J19 => ∀ (S18 : St), J19 S18 = some rs → WX shN w x S18 115 [(0, .ref (w.1 16)), (1, .int p1), (3, .int v8), (4, .int v11)] []) hf (fun S18 hf => ?_) (fun J19 hJ19 hf => ?_)
        · refine x_aload_n C d_U_sendAll_115 0 rfl ?_
          refine x_dup C d_U_sendAll_116 rfl ?_
          refine x_get C d_U_sendAll_117 f_U_count wd271 rfl rfl ?_
          refine x_iload C d_U_sendAll_120 3 rfl ?_
          refine x_iadd C d_U_sendAll_122 ?_
          refine x_put C d_U_sendAll_123 f_U_count wd271 rfl rfl hf (fun S20 hf => ?_)
          refine x_iload C d_U_sendAll_126 3 rfl ?_
          refine x_istore_n C d_U_sendAll_128 [(2, .int v11), (0, .ref (w.1 16)), (1, .int p1), (3, .int v8), (4, .int v11)] (by rw [hnL]; decide) rfl ?_
          refine x_iinc C 1 d_U_sendAll_129 3 rfl (by rw [hnL]; decide) hf (fun v21 => [(3, .int v21), (2, .int v11), (0, .ref (w.1 16)), (1, .int p1), (4, .int v11)]) (fun _ => rfl) (fun v21 hf => ?_)
          refine x_goto C d_U_sendAll_132 ?_
          refine x_sub [2, 3, 1, 0] rfl ?_
          exact ih S20 v11 v21 hf
        refine x_icmp_ne C d_U_sendAll_98 hf (fun hf => ?_) (fun hf => ?_)
        · refine x_aload_n C d_U_sendAll_101 1 rfl ?_
          refine x_get C d_U_sendAll_102 f_U_first wd273 rfl rfl ?_
          refine x_bipush C d_U_sendAll_105 (-4) ?_
          refine x_icmp_ne C d_U_sendAll_107 hf (fun hf => ?_) (fun hf => ?_)
          · refine x_aload_n C d_U_sendAll_110 1 rfl ?_
            refine x_iload_n C d_U_sendAll_111 4 rfl ?_
            refine x_put C d_U_sendAll_112 f_U_first wd273 rfl rfl hf (fun S22 hf => ?_)
            refine x_sub [1, 2, 4, 0] rfl ?_
            exact hJ19 S22 hf
          refine x_sub [1, 2, 4, 0] rfl ?_
          exact hJ19 S17 hf
        refine x_sub [1, 2, 4, 0] rfl ?_
        exact hJ19 S17 hf
      refine x_if_eq C d_U_sendAll_50 hf (fun hf => ?_) (fun hf => ?_)
      · refine x_iconst C d_U_sendAll_57 0 ?_
        exact hJ12 0 hf
      refine x_iconst C d_U_sendAll_53 1 ?_
      refine x_goto C d_U_sendAll_54 ?_
      exact hJ12 1 hf
    exact hR _ _ _ d_U_sendAll_135.1 hf
set_option maxRecDepth 4000 in
theorem m_U_sendAll {w : Ww} {l0 : Launch} {F : Nat} {S : St} {p1 : Int32} {rs : St}  (hf : U_sendAll F S p1 = some rs) : MV shN w l0 y_U_sendAll b_U_sendAll 5 5 [.ref (w.1 16), .int p1] S rs := by
  refine MV.of (by decide) (Nat.le_of_ble_eq_true rfl) rfl (fun x hnL C hR => ?_)
  rw [U_sendAll] at hf
  refine x_aload_n C d_U_sendAll_0 0 rfl ?_
  refine x_getr C d_U_sendAll_1 f_U_plan wd277 rfl rfl ?_
  refine x_cvv C d_U_sendAll_4 wd749 cm_P_layOut rfl rfl [] rfl rfl (by decide) (Nat.le_of_ble_eq_true rfl) hf (fun _ h => m_P_layOut isP1 h) (fun S1 hf => ?_)
  refine x_aload_n C d_U_sendAll_7 0 rfl ?_
  refine x_iconst C d_U_sendAll_8 0 ?_
  refine x_put C d_U_sendAll_9 f_U_cost wd269 rfl rfl hf (fun S2 hf => ?_)
  refine x_aload_n C d_U_sendAll_12 0 rfl ?_
  refine x_iconst C d_U_sendAll_13 0 ?_
  refine x_put C d_U_sendAll_14 f_U_count wd271 rfl rfl hf (fun S3 hf => ?_)
  refine x_aload_n C d_U_sendAll_17 0 rfl ?_
  refine x_bipush C d_U_sendAll_18 (-4) ?_
  refine x_put C d_U_sendAll_20 f_U_first wd273 rfl rfl hf (fun S4 hf => ?_)
  refine x_aload_n C d_U_sendAll_23 0 rfl ?_
  refine x_iconst C d_U_sendAll_24 0 ?_
  refine x_put C d_U_sendAll_25 f_U_slowest wd275 rfl rfl hf (fun S5 hf => ?_)
  refine x_iconst C d_U_sendAll_28 0 ?_
  refine x_istore_n C d_U_sendAll_29 [(2, .int 0), (0, .ref (w.1 16)), (1, .int p1)] (by rw [hnL]; decide) rfl ?_
  refine x_iconst C d_U_sendAll_30 0 ?_
  refine x_istore_n C d_U_sendAll_31 [(3, .int 0), (2, .int 0), (0, .ref (w.1 16)), (1, .int p1)] (by rw [hnL]; decide) rfl ?_
  refine x_sub [2, 3, 1, 0] rfl ?_
  exact w_U_sendAll_L32 hnL C hR  F S5 0 0 hf
set_option maxRecDepth 4000 in
theorem m_N_turned {w : Ww} {l0 : Launch} {F : Nat} {S : St} {p1 : Int32} {p2 : Int32} {r : Int32} {S9 : St}  (hf : N_turned F S p1 p2 = some (r, S9)) : MI shN w l0 y_N_turned b_N_turned 3 .int 6 [.ref (w.1 0), .int p1, .int p2] S r S9 bzT := by
  refine MI.of (by decide) (Nat.le_of_ble_eq_true rfl) rfl (fun _ _ => rfl) (fun x hnL C hR => ?_)
  rw [N_turned] at hf
  refine x_iload_n C d_N_turned_0 1 rfl ?_
  refine x_if_lt C d_N_turned_1 hf (fun hf => ?_) (fun hf => ?_)
  · refine x_iconst C d_N_turned_18 (-1) ?_
    exact hR _ _ _ _ d_N_turned_19.1 hf trivial
  refine x_iload_n C d_N_turned_4 1 rfl ?_
  refine x_iconst C d_N_turned_5 3 ?_
  refine x_icmp_gt C d_N_turned_6 hf (fun hf => ?_) (fun hf => ?_)
  · refine x_iconst C d_N_turned_18 (-1) ?_
    exact hR _ _ _ _ d_N_turned_19.1 hf trivial
  refine x_iload_n C d_N_turned_9 2 rfl ?_
  refine x_if_lt C d_N_turned_10 hf (fun hf => ?_) (fun hf => ?_)
  · refine x_iconst C d_N_turned_18 (-1) ?_
    exact hR _ _ _ _ d_N_turned_19.1 hf trivial
  refine x_iload_n C d_N_turned_13 2 rfl ?_
  refine x_iconst C d_N_turned_14 3 ?_
  refine x_icmp_le C d_N_turned_15 hf (fun hf => ?_) (fun hf => ?_)
  · refine x_iconst C d_N_turned_18 (-1) ?_
    exact hR _ _ _ _ d_N_turned_19.1 hf trivial
  refine x_aload_n C d_N_turned_20 0 rfl ?_
  refine x_getr C d_N_turned_21 f_N_turns wd341 rfl rfl ?_
  refine x_iload_n C d_N_turned_24 1 rfl ?_
  refine x_cvv C d_N_turned_25 wd745 cm_U_sendAll rfl rfl [.int p1] rfl rfl (by decide) (Nat.le_of_ble_eq_true rfl) hf (fun _ h => m_U_sendAll h) (fun S1 hf => ?_)
  refine x_iload_n C d_N_turned_28 2 rfl ?_
  rcases x_ite hf with ⟨q2, hf⟩ | ⟨q2, hf⟩
  · refine x_tin C d_N_turned_29 (k := 0) (t := 56) q2 (by decide) (by decide) rfl (by decide) ?_
    refine x_aload_n C d_N_turned_56 0 rfl ?_
    refine x_getr C d_N_turned_57 f_N_turns wd341 rfl rfl ?_
    refine x_get C d_N_turned_60 f_U_cost wd270 rfl rfl ?_
    exact hR _ _ _ _ d_N_turned_63.1 hf trivial
  rcases x_ite hf with ⟨q3, hf⟩ | ⟨q3, hf⟩
  · refine x_tin C d_N_turned_29 (k := 1) (t := 64) q3 (by decide) (by decide) rfl (by decide) ?_
    refine x_aload_n C d_N_turned_64 0 rfl ?_
    refine x_getr C d_N_turned_65 f_N_turns wd341 rfl rfl ?_
    refine x_get C d_N_turned_68 f_U_count wd272 rfl rfl ?_
    exact hR _ _ _ _ d_N_turned_71.1 hf trivial
  rcases x_ite hf with ⟨q4, hf⟩ | ⟨q4, hf⟩
  · refine x_tin C d_N_turned_29 (k := 2) (t := 72) q4 (by decide) (by decide) rfl (by decide) ?_
    refine x_aload_n C d_N_turned_72 0 rfl ?_
    refine x_getr C d_N_turned_73 f_N_turns wd341 rfl rfl ?_
    refine x_get C d_N_turned_76 f_U_first wd274 rfl rfl ?_
    exact hR _ _ _ _ d_N_turned_79.1 hf trivial
  refine x_tout C d_N_turned_29 (t := 80) (by have tq2 := lv_neT q2 (a := 0) (by decide); have tq3 := lv_neT q3 (a := 1) (by decide); have tq4 := lv_neT q4 (a := 2) (by decide); omega) (by decide) ?_
  refine x_aload_n C d_N_turned_80 0 rfl ?_
  refine x_getr C d_N_turned_81 f_N_turns wd341 rfl rfl ?_
  refine x_get C d_N_turned_84 f_U_slowest wd276 rfl rfl ?_
  exact hR _ _ _ _ d_N_turned_87.1 hf trivial
set_option maxRecDepth 4000 in
theorem m_N_isKind {w : Ww} {l0 : Launch} {F : Nat} {S : St} {p1 : Int32} {rs : Int32}  (hf : N_isKind F S p1 = some rs) : MI shN w l0 y_N_isKind b_N_isKind 1 .boolean 0 [.int p1] S rs S bz01 := by
  refine MI.of (by decide) (Nat.le_of_ble_eq_true rfl) rfl (fun v hb => by rcases hb with rfl | rfl <;> decide) (fun x hnL C hR => ?_)
  rw [N_isKind] at hf
  refine x_iload_n C d_N_isKind_0 0 rfl ?_
  refine x_jn (fun J1 => J1  = some rs → WX shN w x S 9 [] []) hf (fun hf => ?_) (fun J1 hJ1 hf => ?_)
  · refine x_iconst C d_N_isKind_9 1 ?_
    refine x_goto C d_N_isKind_10 ?_
    exact x_retR hR d_N_isKind_14 hf (Or.inr rfl)
  refine x_if_eq C d_N_isKind_1 hf (fun hf => ?_) (fun hf => ?_)
  · refine x_sub [] rfl ?_
    exact hJ1  hf
  refine x_iload_n C d_N_isKind_4 0 rfl ?_
  refine x_iconst C d_N_isKind_5 1 ?_
  refine x_icmp_ne C d_N_isKind_6 hf (fun hf => ?_) (fun hf => ?_)
  · refine x_sub [] rfl ?_
    exact hJ1  hf
  refine x_iconst C d_N_isKind_13 0 ?_
  exact x_retR hR d_N_isKind_14 hf (Or.inl rfl)
set_option maxRecDepth 4000 in
theorem m_N_isInBook {w : Ww} {l0 : Launch} {F : Nat} {S : St} {p1 : Int32} {p2 : Int32} {rs : Int32}  (hf : N_isInBook F S p1 p2 = some rs) : MI shN w l0 y_N_isInBook b_N_isInBook 7 .boolean 0 [.ref (w.1 0), .int p1, .int p2] S rs S bz01 := by
  refine MI.of (by decide) (Nat.le_of_ble_eq_true rfl) rfl (fun v hb => by rcases hb with rfl | rfl <;> decide) (fun x hnL C hR => ?_)
  rw [N_isInBook] at hf
  refine x_iconst C d_N_isInBook_0 1 ?_
  refine x_aload_n C d_N_isInBook_1 0 rfl ?_
  refine x_getr C d_N_isInBook_2 f_N_plan wd337 rfl rfl ?_
  refine x_get C d_N_isInBook_5 f_P_wires wd113 rfl rfl ?_
  refine x_iconst C d_N_isInBook_8 1 ?_
  refine x_isub C d_N_isInBook_9 ?_
  refine x_ishl C d_N_isInBook_10 ?_
  refine x_iconst C d_N_isInBook_11 1 ?_
  refine x_isub C d_N_isInBook_12 ?_
  refine x_bi hf (fun v1 hf => ?_)
  refine x_istore_n C d_N_isInBook_13 [(3, .int v1), (0, .ref (w.1 0)), (1, .int p1), (2, .int p2)] (by rw [hnL]; decide) rfl ?_
  refine x_iload_n C d_N_isInBook_14 3 rfl ?_
  refine x_iconst C d_N_isInBook_15 1 ?_
  refine x_ishr C d_N_isInBook_16 ?_
  refine x_bi hf (fun v2 hf => ?_)
  refine x_istore C d_N_isInBook_17 [(4, .int v2), (3, .int v1), (0, .ref (w.1 0)), (1, .int p1), (2, .int p2)] (by rw [hnL]; decide) rfl ?_
  refine x_iload_n C d_N_isInBook_19 3 rfl ?_
  refine x_if_ne C d_N_isInBook_20 hf (fun hf => ?_) (fun hf => ?_)
  · refine x_iload_n C d_N_isInBook_23 4 rfl ?_
    refine x_iload C d_N_isInBook_24 0 rfl ?_
    refine x_ixor C d_N_isInBook_26 ?_
    refine x_iload_n C d_N_isInBook_27 1 rfl ?_
    refine x_iand C d_N_isInBook_28 ?_
    refine x_bi hf (fun v3 hf => ?_)
    refine x_istore C d_N_isInBook_29 [(5, .int v3), (4, .int v2), (3, .int v1), (0, .ref (w.1 0)), (1, .int p1), (2, .int p2)] (by rw [hnL]; decide) rfl ?_
    refine x_iload C d_N_isInBook_31 0 rfl ?_
    refine x_iload C d_N_isInBook_33 0 rfl ?_
    refine x_iconst C d_N_isInBook_35 1 ?_
    refine x_ishr C d_N_isInBook_36 ?_
    refine x_iand C d_N_isInBook_37 ?_
    refine x_if_ne C d_N_isInBook_38 hf (fun hf => ?_) (fun hf => ?_)
    · refine x_iconst C d_N_isInBook_41 1 ?_
      refine x_goto C d_N_isInBook_42 ?_
      exact x_retR hR d_N_isInBook_46 hf (Or.inr rfl)
    refine x_iconst C d_N_isInBook_45 0 ?_
    exact x_retR hR d_N_isInBook_46 hf (Or.inl rfl)
  refine x_bipush C d_N_isInBook_47 85 ?_
  refine x_iload_n C d_N_isInBook_49 1 rfl ?_
  refine x_iand C d_N_isInBook_50 ?_
  refine x_bi hf (fun v4 hf => ?_)
  refine x_istore C d_N_isInBook_51 [(5, .int v4), (4, .int v2), (3, .int v1), (0, .ref (w.1 0)), (1, .int p1), (2, .int p2)] (by rw [hnL]; decide) rfl ?_
  refine x_sipush C d_N_isInBook_53 170 ?_
  refine x_iload_n C d_N_isInBook_56 2 rfl ?_
  refine x_iand C d_N_isInBook_57 ?_
  refine x_bi hf (fun v5 hf => ?_)
  refine x_istore C d_N_isInBook_58 [(6, .int v5), (5, .int v4), (4, .int v2), (3, .int v1), (0, .ref (w.1 0)), (1, .int p1), (2, .int p2)] (by rw [hnL]; decide) rfl ?_
  refine x_iload_n C d_N_isInBook_60 6 rfl ?_
  refine x_iconst C d_N_isInBook_61 (-1) ?_
  refine x_ixor C d_N_isInBook_62 ?_
  refine x_iload C d_N_isInBook_63 2 rfl ?_
  refine x_iand C d_N_isInBook_65 ?_
  refine x_iload C d_N_isInBook_66 1 rfl ?_
  refine x_iand C d_N_isInBook_68 ?_
  refine x_jn (fun J6 => J6  = some rs → WX shN w x S 88 [] []) hf (fun hf => ?_) (fun J6 hJ6 hf => ?_)
  · refine x_iconst C d_N_isInBook_88 0 ?_
    exact x_retR hR d_N_isInBook_89 hf (Or.inl rfl)
  refine x_if_ne C d_N_isInBook_69 hf (fun hf => ?_) (fun hf => ?_)
  · refine x_iload_n C d_N_isInBook_72 6 rfl ?_
    refine x_iload C d_N_isInBook_73 2 rfl ?_
    refine x_iconst C d_N_isInBook_75 (-1) ?_
    refine x_ixor C d_N_isInBook_76 ?_
    refine x_iand C d_N_isInBook_77 ?_
    refine x_iload C d_N_isInBook_78 0 rfl ?_
    refine x_iand C d_N_isInBook_80 ?_
    refine x_if_ne C d_N_isInBook_81 hf (fun hf => ?_) (fun hf => ?_)
    · refine x_iconst C d_N_isInBook_84 1 ?_
      refine x_goto C d_N_isInBook_85 ?_
      exact x_retR hR d_N_isInBook_89 hf (Or.inr rfl)
    refine x_sub [] rfl ?_
    exact hJ6  hf
  refine x_sub [] rfl ?_
  exact hJ6  hf
