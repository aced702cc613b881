set_option maxRecDepth 4000 in
theorem w_M_slowNow_L4 {w : Ww} {l0 : Launch} {x : Cx} {F : Nat} {S : St} {rs : Int32}  (hnL : x.2.2.2.2.2.2.2.2.2.2.2.2 = 3) (C : XC shM w "NeighbourWiresModel" b_M_slowNow l0 2 x) (hR : RI shM w b_M_slowNow bzT (rs, S) x)   : ∀ (n : Nat) (v1 : Int32) (v2 : Int32), M_slowNow_L4 F S n v1 v2 = some rs → WX shM w x S 4 [(0, .ref (w.1 0)), (1, .int v1), (2, .int v2)] [] := by
  intro n
  induction n with
  | zero => intro v1 v2 hf; cases hf
  | succ n ih =>
    intro v1 v2 hf
    rw [M_slowNow_L4] at hf
    refine x_iload_n C d_M_slowNow_4 2 rfl ?_
    refine x_aload_n C d_M_slowNow_5 0 rfl ?_
    refine x_get C d_M_slowNow_6 f_M_places wd990 rfl rfl ?_
    refine x_icmp_ge C d_M_slowNow_9 hf (fun hf => ?_) (fun hf => ?_)
    · refine x_aload_n C d_M_slowNow_12 0 rfl ?_
      refine x_iload_n C d_M_slowNow_13 2 rfl ?_
      refine x_cvr C d_M_slowNow_14 wd1192 cm_M_slowAt rfl rfl [.int v2] rfl rfl (by decide) (Nat.le_of_ble_eq_true rfl) hf (fun _ h => m_M_slowAt h) (fun v3 hf hb_v3 => ?_)
      refine x_iload_n C d_M_slowNow_17 1 rfl ?_
      refine x_jn (fun J5 => ∀ (v4 : Int32), J5 v4 = some rs → WX shM w x S 30 [(0, .ref (w.1 0)), (2, .int v2)] [.int v4]) hf (fun v4 hf => ?_) (fun J5 hJ5 hf => ?_)
      · refine x_istore_n C d_M_slowNow_30 [(1, .int v4), (0, .ref (w.1 0)), (2, .int v2)] (by rw [hnL]; decide) rfl ?_
        refine x_iinc C 1 d_M_slowNow_31 2 rfl (by rw [hnL]; decide) hf (fun v6 => [(2, .int v6), (1, .int v4), (0, .ref (w.1 0))]) (fun _ => rfl) (fun v6 hf => ?_)
        refine x_goto C d_M_slowNow_34 ?_
        refine x_sub [2, 1, 0] rfl ?_
        exact ih v4 v6 hf
      refine x_icmp_le C d_M_slowNow_18 hf (fun hf => ?_) (fun hf => ?_)
      · refine x_aload_n C d_M_slowNow_21 0 rfl ?_
        refine x_iload_n C d_M_slowNow_22 2 rfl ?_
        refine x_cvr C d_M_slowNow_23 wd1192 cm_M_slowAt rfl rfl [.int v2] rfl rfl (by decide) (Nat.le_of_ble_eq_true rfl) hf (fun _ h => m_M_slowAt h) (fun v7 hf hb_v7 => ?_)
        refine x_goto C d_M_slowNow_26 ?_
        refine x_sub [0, 2] rfl ?_
        exact hJ5 v7 hf
      refine x_iload_n C d_M_slowNow_29 1 rfl ?_
      refine x_sub [0, 2] rfl ?_
      exact hJ5 v1 hf
    refine x_iload_n C d_M_slowNow_37 1 rfl ?_
    exact x_retR hR d_M_slowNow_38 hf trivial
set_option maxRecDepth 4000 in
theorem m_M_slowNow {w : Ww} {l0 : Launch} {F : Nat} {S : St} {rs : Int32}  (hf : M_slowNow F S = some rs) : MI shM w l0 y_M_slowNow b_M_slowNow 3 .int 2 [.ref (w.1 0)] S rs S bzT := by
  refine MI.of (by decide) (Nat.le_of_ble_eq_true rfl) rfl (fun _ _ => rfl) (fun x hnL C hR => ?_)
  rw [M_slowNow] at hf
  refine x_iconst C d_M_slowNow_0 0 ?_
  refine x_istore_n C d_M_slowNow_1 [(1, .int 0), (0, .ref (w.1 0))] (by rw [hnL]; decide) rfl ?_
  refine x_iconst C d_M_slowNow_2 0 ?_
  refine x_istore_n C d_M_slowNow_3 [(2, .int 0), (1, .int 0), (0, .ref (w.1 0))] (by rw [hnL]; decide) rfl ?_
  refine x_sub [2, 1, 0] rfl ?_
  exact w_M_slowNow_L4 hnL C hR  F 0 0 hf
set_option maxRecDepth 4000 in
theorem w_M_noiseNow_L4 {w : Ww} {l0 : Launch} {x : Cx} {F : Nat} {S : St} {rs : Int32}  (hnL : x.2.2.2.2.2.2.2.2.2.2.2.2 = 6) (C : XC shM w "NeighbourWiresModel" b_M_noiseNow l0 1 x) (hR : RI shM w b_M_noiseNow bzT (rs, S) x)   : ∀ (n : Nat) (v1 : Int32) (v2 : Int32), M_noiseNow_L4 F S n v1 v2 = some rs → WX shM w x S 4 [(0, .ref (w.1 0)), (1, .int v1), (2, .int v2)] [] := by
  intro n
  induction n with
  | zero => intro v1 v2 hf; cases hf
  | succ n ih =>
    intro v1 v2 hf
    rw [M_noiseNow_L4] at hf
    refine x_iload_n C d_M_noiseNow_4 2 rfl ?_
    refine x_aload_n C d_M_noiseNow_5 0 rfl ?_
    refine x_get C d_M_noiseNow_6 f_M_places wd990 rfl rfl ?_
    refine x_icmp_ge C d_M_noiseNow_9 hf (fun hf => ?_) (fun hf => ?_)
    · refine x_iload_n C d_M_noiseNow_12 2 rfl ?_
      refine x_jn (fun J4 => ∀ (v3 : Int32), J4 v3 = some rs → WX shM w x S 38 [(0, .ref (w.1 0)), (1, .int v1), (2, .int v2)] [.int v3]) hf (fun v3 hf => ?_) (fun J4 hJ4 hf => ?_)
      · refine x_istore_n C d_M_noiseNow_38 [(3, .int v3), (0, .ref (w.1 0)), (1, .int v1), (2, .int v2)] (by rw [hnL]; decide) rfl ?_
        refine x_iload_n C d_M_noiseNow_39 3 rfl ?_
        refine x_aload_n C d_M_noiseNow_40 1 rfl ?_
        refine x_get C d_M_noiseNow_41 f_M_places wd990 rfl rfl ?_
        refine x_iconst C d_M_noiseNow_44 1 ?_
        refine x_isub C d_M_noiseNow_45 ?_
        refine x_jn (fun J6 => ∀ (v5 : Int32), J6 v5 = some rs → WX shM w x S 69 [(0, .ref (w.1 0)), (1, .int v1), (2, .int v2), (3, .int v3)] [.int v5]) hf (fun v5 hf => ?_) (fun J6 hJ6 hf => ?_)
        · refine x_istore C d_M_noiseNow_69 [(4, .int v5), (0, .ref (w.1 0)), (1, .int v1), (2, .int v2), (3, .int v3)] (by rw [hnL]; decide) rfl ?_
          refine x_aload_n C d_M_noiseNow_71 1 rfl ?_
          refine x_getr C d_M_noiseNow_72 f_M_move wd989 rfl rfl ?_
          refine x_iload_n C d_M_noiseNow_75 3 rfl ?_
          refine x_iald C d_M_noiseNow_76 rfl hf (fun hf => ?_)
          refine x_jn (fun J8 => ∀ (v7 : Int32), J8 v7 = some rs → WX shM w x S 91 [(0, .ref (w.1 0)), (1, .int v1), (2, .int v2)] [.int v7]) hf (fun v7 hf => ?_) (fun J8 hJ8 hf => ?_)
          · refine x_istore C d_M_noiseNow_91 [(5, .int v7), (0, .ref (w.1 0)), (1, .int v1), (2, .int v2)] (by rw [hnL]; decide) rfl ?_
            refine x_iload C d_M_noiseNow_93 0 rfl ?_
            refine x_iload_n C d_M_noiseNow_95 2 rfl ?_
            refine x_jn (fun J10 => ∀ (v9 : Int32), J10 v9 = some rs → WX shM w x S 105 [(0, .ref (w.1 0)), (2, .int v2)] [.int v9]) hf (fun v9 hf => ?_) (fun J10 hJ10 hf => ?_)
            · refine x_istore_n C d_M_noiseNow_105 [(1, .int v9), (0, .ref (w.1 0)), (2, .int v2)] (by rw [hnL]; decide) rfl ?_
              refine x_iinc C 1 d_M_noiseNow_106 2 rfl (by rw [hnL]; decide) hf (fun v11 => [(2, .int v11), (1, .int v9), (0, .ref (w.1 0))]) (fun _ => rfl) (fun v11 hf => ?_)
              refine x_goto C d_M_noiseNow_109 ?_
              refine x_sub [2, 1, 0] rfl ?_
              exact ih v9 v11 hf
            refine x_icmp_le C d_M_noiseNow_96 hf (fun hf => ?_) (fun hf => ?_)
            · refine x_iload C d_M_noiseNow_99 0 rfl ?_
              refine x_goto C d_M_noiseNow_101 ?_
              refine x_sub [1, 3] rfl ?_
              exact hJ10 v7 hf
            refine x_iload_n C d_M_noiseNow_104 2 rfl ?_
            refine x_sub [1, 3] rfl ?_
            exact hJ10 v1 hf
          refine x_if_ne C d_M_noiseNow_77 hf (fun hf => ?_) (fun hf => ?_)
          · refine x_iload_n C d_M_noiseNow_80 4 rfl ?_
            refine x_iload C d_M_noiseNow_81 0 rfl ?_
            refine x_iadd C d_M_noiseNow_83 ?_
            refine x_csr C d_M_noiseNow_84 wd1196 cm_M_plain [.int (v3 + v5)] rfl rfl (by decide) (Nat.le_of_ble_eq_true rfl) hf (fun _ h => m_M_plain h) (fun v12 hf hb_v12 => ?_)
            refine x_goto C d_M_noiseNow_87 ?_
            refine x_sub [1, 2, 3] rfl ?_
            exact hJ8 v12 hf
          refine x_iconst C d_M_noiseNow_90 0 ?_
          refine x_sub [1, 2, 3] rfl ?_
          exact hJ8 0 hf
        refine x_jn (fun J13 => J13  = some rs → WX shM w x S 68 [(0, .ref (w.1 0)), (1, .int v1), (2, .int v2), (3, .int v3)] []) hf (fun hf => ?_) (fun J13 hJ13 hf => ?_)
        · refine x_iconst C d_M_noiseNow_68 0 ?_
          exact hJ6 0 hf
        refine x_icmp_ge C d_M_noiseNow_46 hf (fun hf => ?_) (fun hf => ?_)
        · refine x_aload_n C d_M_noiseNow_49 1 rfl ?_
          refine x_iload_n C d_M_noiseNow_50 3 rfl ?_
          refine x_cvr C d_M_noiseNow_51 wd1180 cm_M_isGuarded rfl rfl [.int v2] rfl rfl (by decide) (Nat.le_of_ble_eq_true rfl) hf (fun _ h => m_M_isGuarded h) (fun v14 hf hb_v14 => ?_)
          refine x_if_ne C d_M_noiseNow_54 hf (fun hf => ?_) (fun hf => ?_)
          · refine x_aload_n C d_M_noiseNow_57 1 rfl ?_
            refine x_getr C d_M_noiseNow_58 f_M_move wd989 rfl rfl ?_
            refine x_iload_n C d_M_noiseNow_61 3 rfl ?_
            refine x_iconst C d_M_noiseNow_62 1 ?_
            refine x_iadd C d_M_noiseNow_63 ?_
            refine x_iald C d_M_noiseNow_64 rfl hf (fun hf => ?_)
            refine x_goto C d_M_noiseNow_65 ?_
            refine x_sub [1, 2, 3, 0] rfl ?_
            exact hJ6 (S.1 7 (Int32.toNatClampNeg (v2 + 1))) hf
          refine x_sub [1, 2, 3, 0] rfl ?_
          exact hJ13  hf
        refine x_sub [1, 2, 3, 0] rfl ?_
        exact hJ13  hf
      refine x_jn (fun J15 => J15  = some rs → WX shM w x S 37 [(0, .ref (w.1 0)), (1, .int v1), (2, .int v2)] []) hf (fun hf => ?_) (fun J15 hJ15 hf => ?_)
      · refine x_iconst C d_M_noiseNow_37 0 ?_
        exact hJ4 0 hf
      refine x_if_le C d_M_noiseNow_13 hf (fun hf => ?_) (fun hf => ?_)
      · refine x_aload_n C d_M_noiseNow_16 0 rfl ?_
        refine x_iload_n C d_M_noiseNow_17 2 rfl ?_
        refine x_iconst C d_M_noiseNow_18 1 ?_
        refine x_isub C d_M_noiseNow_19 ?_
        refine x_cvr C d_M_noiseNow_20 wd1180 cm_M_isGuarded rfl rfl [.int (v2 - 1)] rfl rfl (by decide) (Nat.le_of_ble_eq_true rfl) hf (fun _ h => m_M_isGuarded h) (fun v16 hf hb_v16 => ?_)
        refine x_if_ne C d_M_noiseNow_23 hf (fun hf => ?_) (fun hf => ?_)
        · refine x_aload_n C d_M_noiseNow_26 0 rfl ?_
          refine x_getr C d_M_noiseNow_27 f_M_move wd989 rfl rfl ?_
          refine x_iload_n C d_M_noiseNow_30 2 rfl ?_
          refine x_iconst C d_M_noiseNow_31 1 ?_
          refine x_isub C d_M_noiseNow_32 ?_
          refine x_iald C d_M_noiseNow_33 rfl hf (fun hf => ?_)
          refine x_goto C d_M_noiseNow_34 ?_
          exact hJ4 (S.1 7 (Int32.toNatClampNeg (v2 - 1))) hf
        exact hJ15  hf
      exact hJ15  hf
    refine x_iload_n C d_M_noiseNow_112 1 rfl ?_
    exact x_retR hR d_M_noiseNow_113 hf trivial
set_option maxRecDepth 4000 in
theorem m_M_noiseNow {w : Ww} {l0 : Launch} {F : Nat} {S : St} {rs : Int32}  (hf : M_noiseNow F S = some rs) : MI shM w l0 y_M_noiseNow b_M_noiseNow 6 .int 1 [.ref (w.1 0)] S rs S bzT := by
  refine MI.of (by decide) (Nat.le_of_ble_eq_true rfl) rfl (fun _ _ => rfl) (fun x hnL C hR => ?_)
  rw [M_noiseNow] at hf
  refine x_iconst C d_M_noiseNow_0 0 ?_
  refine x_istore_n C d_M_noiseNow_1 [(1, .int 0), (0, .ref (w.1 0))] (by rw [hnL]; decide) rfl ?_
  refine x_iconst C d_M_noiseNow_2 0 ?_
  refine x_istore_n C d_M_noiseNow_3 [(2, .int 0), (1, .int 0), (0, .ref (w.1 0))] (by rw [hnL]; decide) rfl ?_
  refine x_sub [2, 1, 0] rfl ?_
  exact w_M_noiseNow_L4 hnL C hR  F 0 0 hf
set_option maxRecDepth 4000 in
theorem m_M_plainMoves {w : Ww} {l0 : Launch} {F : Nat} {S : St} {p1 : Int32} {p2 : Int32} {rs : St}  (hf : M_plainMoves F S p1 p2 = some rs) : MV shM w l0 y_M_plainMoves b_M_plainMoves 3 1 [.ref (w.1 0), .int p1, .int p2] S rs := by
  refine MV.of (by decide) (Nat.le_of_ble_eq_true rfl) rfl (fun x hnL C hR => ?_)
  rw [M_plainMoves] at hf
  refine x_aload_n C d_M_plainMoves_0 0 rfl ?_
  refine x_iload_n C d_M_plainMoves_1 1 rfl ?_
  refine x_iload_n C d_M_plainMoves_2 2 rfl ?_
  refine x_aload_n C d_M_plainMoves_3 0 rfl ?_
  refine x_get C d_M_plainMoves_4 f_M_wires wd966 rfl rfl ?_
  refine x_iconst C d_M_plainMoves_7 1 ?_
  refine x_aload_n C d_M_plainMoves_8 0 rfl ?_
  refine x_get C d_M_plainMoves_9 f_M_shields wd969 rfl rfl ?_
  refine x_cvv C d_M_plainMoves_12 wd1168 cm_M_moves rfl rfl [.int p1, .int p2, .int (S.1 0 0), .int 1, .int (S.1 0 3)] rfl rfl (by decide) (Nat.le_of_ble_eq_true rfl) hf (fun _ h => m_M_moves h) (fun S1 hf => ?_)
  exact hR _ _ _ d_M_plainMoves_15.1 hf
set_option maxRecDepth 4000 in
theorem m_M_told {w : Ww} {l0 : Launch} {F : Nat} {S : St} {p1 : Int32} {rs : Int32}  (hf : M_told F S p1 = some rs) : MI shM w l0 y_M_told b_M_told 2 .int 3 [.ref (w.1 0), .int p1] S rs S bzT := by
  refine MI.of (by decide) (Nat.le_of_ble_eq_true rfl) rfl (fun _ _ => rfl) (fun x hnL C hR => ?_)
  rw [M_told] at hf
  refine x_iload_n C d_M_told_0 1 rfl ?_
  refine x_if_ne C d_M_told_1 hf (fun hf => ?_) (fun hf => ?_)
  · refine x_aload_n C d_M_told_4 0 rfl ?_
    refine x_cvr C d_M_told_5 wd1176 cm_M_costNow rfl rfl [] rfl rfl (by decide) (Nat.le_of_ble_eq_true rfl) hf (fun _ h => m_M_costNow h) (fun v1 hf hb_v1 => ?_)
    refine x_goto C d_M_told_8 ?_
    exact x_retR hR d_M_told_39 hf trivial
  refine x_iload_n C d_M_told_11 1 rfl ?_
  refine x_iconst C d_M_told_12 1 ?_
  refine x_icmp_ne C d_M_told_13 hf (fun hf => ?_) (fun hf => ?_)
  · refine x_aload_n C d_M_told_16 0 rfl ?_
    refine x_cvr C d_M_told_17 wd1188 cm_M_slowNow rfl rfl [] rfl rfl (by decide) (Nat.le_of_ble_eq_true rfl) hf (fun _ h => m_M_slowNow h) (fun v2 hf hb_v2 => ?_)
    refine x_goto C d_M_told_20 ?_
    exact x_retR hR d_M_told_39 hf trivial
  refine x_iload_n C d_M_told_23 1 rfl ?_
  refine x_iconst C d_M_told_24 2 ?_
  refine x_icmp_ne C d_M_told_25 hf (fun hf => ?_) (fun hf => ?_)
  · refine x_aload_n C d_M_told_28 0 rfl ?_
    refine x_cvr C d_M_told_29 wd1199 cm_M_noiseNow rfl rfl [] rfl rfl (by decide) (Nat.le_of_ble_eq_true rfl) hf (fun _ h => m_M_noiseNow h) (fun v3 hf hb_v3 => ?_)
    refine x_goto C d_M_told_32 ?_
    exact x_retR hR d_M_told_39 hf trivial
  refine x_aload_n C d_M_told_35 0 rfl ?_
  refine x_cvr C d_M_told_36 wd1184 cm_M_movedNow rfl rfl [] rfl rfl (by decide) (Nat.le_of_ble_eq_true rfl) hf (fun _ h => m_M_movedNow h) (fun v4 hf hb_v4 => ?_)
  exact x_retR hR d_M_told_39 hf trivial
set_option maxRecDepth 4000 in
theorem m_M_change {w : Ww} {l0 : Launch} {F : Nat} {S : St} {p1 : Int32} {p2 : Int32} {p3 : Int32} {r : Int32} {S9 : St}  (hf : M_change F S p1 p2 p3 = some (r, S9)) : MI shM w l0 y_M_change b_M_change 4 .int 4 [.ref (w.1 0), .int p1, .int p2, .int p3] S r S9 bzT := by
  refine MI.of (by decide) (Nat.le_of_ble_eq_true rfl) rfl (fun _ _ => rfl) (fun x hnL C hR => ?_)
  rw [M_change] at hf
  refine x_aload_n C d_M_change_0 0 rfl ?_
  refine x_iload_n C d_M_change_1 1 rfl ?_
  refine x_cvr C d_M_change_2 wd1159 cm_M_isWord rfl rfl [.int p1] rfl rfl (by decide) (Nat.le_of_ble_eq_true rfl) hf (fun _ h => m_M_isWord h) (fun v1 hf hb_v1 => ?_)
  refine x_if_eq C d_M_change_5 hf (fun hf => ?_) (fun hf => ?_)
  · refine x_iconst C d_M_change_28 (-1) ?_
    exact hR _ _ _ _ d_M_change_29.1 hf trivial
  refine x_aload_n C d_M_change_8 0 rfl ?_
  refine x_iload_n C d_M_change_9 2 rfl ?_
  refine x_cvr C d_M_change_10 wd1159 cm_M_isWord rfl rfl [.int p2] rfl rfl (by decide) (Nat.le_of_ble_eq_true rfl) hf (fun _ h => m_M_isWord h) (fun v2 hf hb_v2 => ?_)
  refine x_if_eq C d_M_change_13 hf (fun hf => ?_) (fun hf => ?_)
  · refine x_iconst C d_M_change_28 (-1) ?_
    exact hR _ _ _ _ d_M_change_29.1 hf trivial
  refine x_iload_n C d_M_change_16 3 rfl ?_
  refine x_i2l C d_M_change_17 ?_
  refine x_lconst C d_M_change_18 0 ?_
  refine x_ldc2 C d_M_change_19 wd1163 ?_
  refine x_csr C d_M_change_22 wd1088 cm_M_in [.long (Int32.toInt64 p3), .long 0, .long 3] rfl rfl (by decide) (Nat.le_of_ble_eq_true rfl) hf (fun _ h => m_M_in h) (fun v3 hf hb_v3 => ?_)
  refine x_if_ne C d_M_change_25 hf (fun hf => ?_) (fun hf => ?_)
  · refine x_iconst C d_M_change_28 (-1) ?_
    exact hR _ _ _ _ d_M_change_29.1 hf trivial
  refine x_aload_n C d_M_change_30 0 rfl ?_
  refine x_iload_n C d_M_change_31 1 rfl ?_
  refine x_iload_n C d_M_change_32 2 rfl ?_
  refine x_cvv C d_M_change_33 wd1164 cm_M_plainMoves rfl rfl [.int p1, .int p2] rfl rfl (by decide) (Nat.le_of_ble_eq_true rfl) hf (fun _ h => m_M_plainMoves h) (fun S4 hf => ?_)
  refine x_aload_n C d_M_change_36 0 rfl ?_
  refine x_iload_n C d_M_change_37 3 rfl ?_
  refine x_cvr C d_M_change_38 wd1172 cm_M_told rfl rfl [.int p3] rfl rfl (by decide) (Nat.le_of_ble_eq_true rfl) hf (fun _ h => m_M_told h) (fun v5 hf hb_v5 => ?_)
  exact hR _ _ _ _ d_M_change_41.1 hf trivial
set_option maxRecDepth 4000 in
theorem w_M_slow_L46 {w : Ww} {l0 : Launch} {x : Cx} {F : Nat} {p3 : Int32} {S4 : St} {rs : (Int32 × St)}  (hnL : x.2.2.2.2.2.2.2.2.2.2.2.2 = 6) (C : XC shM w "NeighbourWiresModel" b_M_slow l0 2 x) (hR : RI shM w b_M_slow bzT rs x)   : ∀ (n : Nat) (v5 : Int32) (v6 : Int32), M_slow_L46 F p3 S4 n v5 v6 = some rs → WX shM w x S4 46 [(0, .ref (w.1 0)), (3, .int p3), (4, .int v5), (5, .int v6)] [] := by
  intro n
  induction n with
  | zero => intro v5 v6 hf; cases hf
  | succ n ih =>
    intro v5 v6 hf
    rw [M_slow_L46] at hf
    refine x_iload C d_M_slow_46 3 rfl ?_
    refine x_aload_n C d_M_slow_48 0 rfl ?_
    refine x_get C d_M_slow_49 f_M_wires wd966 rfl rfl ?_
    refine x_icmp_ge C d_M_slow_52 hf (fun hf => ?_) (fun hf => ?_)
    · refine x_aload_n C d_M_slow_55 0 rfl ?_
      refine x_getr C d_M_slow_56 f_M_order wd972 rfl rfl ?_
      refine x_iload C d_M_slow_59 3 rfl ?_
      refine x_iald C d_M_slow_61 rfl hf (fun hf => ?_)
      refine x_iload_n C d_M_slow_62 1 rfl ?_
      refine x_jn (fun J8 => ∀ (v7 : Int32), J8 v7 = some rs → WX shM w x S4 77 [(0, .ref (w.1 0)), (3, .int p3), (5, .int v6)] [.int v7]) hf (fun v7 hf => ?_) (fun J8 hJ8 hf => ?_)
      · refine x_istore C d_M_slow_77 [(4, .int v7), (0, .ref (w.1 0)), (3, .int p3), (5, .int v6)] (by rw [hnL]; decide) rfl ?_
        refine x_iinc C 1 d_M_slow_79 3 rfl (by rw [hnL]; decide) hf (fun v9 => [(5, .int v9), (4, .int v7), (0, .ref (w.1 0)), (3, .int p3)]) (fun _ => rfl) (fun v9 hf => ?_)
        refine x_goto C d_M_slow_82 ?_
        refine x_sub [2, 3, 1, 0] rfl ?_
        exact ih v7 v9 hf
      refine x_icmp_ne C d_M_slow_63 hf (fun hf => ?_) (fun hf => ?_)
      · refine x_aload_n C d_M_slow_66 0 rfl ?_
        refine x_iload C d_M_slow_67 3 rfl ?_
        refine x_cvr C d_M_slow_69 wd1192 cm_M_slowAt rfl rfl [.int v6] rfl rfl (by decide) (Nat.le_of_ble_eq_true rfl) hf (fun _ h => m_M_slowAt h) (fun v10 hf hb_v10 => ?_)
        refine x_goto C d_M_slow_72 ?_
        refine x_sub [0, 1, 3] rfl ?_
        exact hJ8 v10 hf
      refine x_iload C d_M_slow_75 2 rfl ?_
      refine x_sub [0, 1, 3] rfl ?_
      exact hJ8 v5 hf
    refine x_iload C d_M_slow_85 2 rfl ?_
    exact hR _ _ _ _ d_M_slow_87.1 hf trivial
set_option maxRecDepth 4000 in
theorem m_M_slow {w : Ww} {l0 : Launch} {F : Nat} {S : St} {p1 : Int32} {p2 : Int32} {p3 : Int32} {r : Int32} {S9 : St}  (hf : M_slow F S p1 p2 p3 = some (r, S9)) : MI shM w l0 y_M_slow b_M_slow 6 .int 2 [.ref (w.1 0), .int p1, .int p2, .int p3] S r S9 bzT := by
  refine MI.of (by decide) (Nat.le_of_ble_eq_true rfl) rfl (fun _ _ => rfl) (fun x hnL C hR => ?_)
  rw [M_slow] at hf
  refine x_aload_n C d_M_slow_0 0 rfl ?_
  refine x_iload_n C d_M_slow_1 1 rfl ?_
  refine x_cvr C d_M_slow_2 wd1159 cm_M_isWord rfl rfl [.int p1] rfl rfl (by decide) (Nat.le_of_ble_eq_true rfl) hf (fun _ h => m_M_isWord h) (fun v1 hf hb_v1 => ?_)
  refine x_if_eq C d_M_slow_5 hf (fun hf => ?_) (fun hf => ?_)
  · refine x_iconst C d_M_slow_32 (-1) ?_
    exact hR _ _ _ _ d_M_slow_33.1 hf trivial
  refine x_aload_n C d_M_slow_8 0 rfl ?_
  refine x_iload_n C d_M_slow_9 2 rfl ?_
  refine x_cvr C d_M_slow_10 wd1159 cm_M_isWord rfl rfl [.int p2] rfl rfl (by decide) (Nat.le_of_ble_eq_true rfl) hf (fun _ h => m_M_isWord h) (fun v2 hf hb_v2 => ?_)
  refine x_if_eq C d_M_slow_13 hf (fun hf => ?_) (fun hf => ?_)
  · refine x_iconst C d_M_slow_32 (-1) ?_
    exact hR _ _ _ _ d_M_slow_33.1 hf trivial
  refine x_iload_n C d_M_slow_16 3 rfl ?_
  refine x_i2l C d_M_slow_17 ?_
  refine x_lconst C d_M_slow_18 0 ?_
  refine x_aload_n C d_M_slow_19 0 rfl ?_
  refine x_get C d_M_slow_20 f_M_wires wd966 rfl rfl ?_
  refine x_iconst C d_M_slow_23 1 ?_
  refine x_isub C d_M_slow_24 ?_
  refine x_i2l C d_M_slow_25 ?_
  refine x_csr C d_M_slow_26 wd1088 cm_M_in [.long (Int32.toInt64 p3), .long 0, .long (Int32.toInt64 ((S.1 0 0) - 1))] rfl rfl (by decide) (Nat.le_of_ble_eq_true rfl) hf (fun _ h => m_M_in h) (fun v3 hf hb_v3 => ?_)
  refine x_if_ne C d_M_slow_29 hf (fun hf => ?_) (fun hf => ?_)
  · refine x_iconst C d_M_slow_32 (-1) ?_
    exact hR _ _ _ _ d_M_slow_33.1 hf trivial
  refine x_aload_n C d_M_slow_34 0 rfl ?_
  refine x_iload_n C d_M_slow_35 1 rfl ?_
  refine x_iload_n C d_M_slow_36 2 rfl ?_
  refine x_cvv C d_M_slow_37 wd1164 cm_M_plainMoves rfl rfl [.int p1, .int p2] rfl rfl (by decide) (Nat.le_of_ble_eq_true rfl) hf (fun _ h => m_M_plainMoves h) (fun S4 hf => ?_)
  refine x_iconst C d_M_slow_40 0 ?_
  refine x_istore C d_M_slow_41 [(4, .int 0), (0, .ref (w.1 0)), (1, .int p1), (2, .int p2), (3, .int p3)] (by rw [hnL]; decide) rfl ?_
  refine x_iconst C d_M_slow_43 0 ?_
  refine x_istore C d_M_slow_44 [(5, .int 0), (4, .int 0), (0, .ref (w.1 0)), (1, .int p1), (2, .int p2), (3, .int p3)] (by rw [hnL]; decide) rfl ?_
  refine x_sub [2, 5, 1, 0] rfl ?_
  exact w_M_slow_L46 hnL C hR  F 0 0 hf
set_option maxRecDepth 4000 in
theorem m_M_send {w : Ww} {l0 : Launch} {F : Nat} {S : St} {p1 : Int32} {r : Int32} {S9 : St}  (hf : M_send F S p1 = some (r, S9)) : MI shM w l0 y_M_send b_M_send 2 .int 2 [.ref (w.1 0), .int p1] S r S9 bzT := by
  refine MI.of (by decide) (Nat.le_of_ble_eq_true rfl) rfl (fun _ _ => rfl) (fun x hnL C hR => ?_)
  rw [M_send] at hf
  refine x_aload_n C d_M_send_0 0 rfl ?_
  refine x_iload_n C d_M_send_1 1 rfl ?_
  refine x_cvr C d_M_send_2 wd1159 cm_M_isWord rfl rfl [.int p1] rfl rfl (by decide) (Nat.le_of_ble_eq_true rfl) hf (fun _ h => m_M_isWord h) (fun v1 hf hb_v1 => ?_)
  refine x_if_ne C d_M_send_5 hf (fun hf => ?_) (fun hf => ?_)
  · refine x_iconst C d_M_send_8 (-1) ?_
    exact hR _ _ _ _ d_M_send_9.1 hf trivial
  refine x_aload_n C d_M_send_10 0 rfl ?_
  refine x_get C d_M_send_11 f_M_rowLong wd970 rfl rfl ?_
  refine x_bipush C d_M_send_14 40 ?_
  refine x_icmp_ne C d_M_send_16 hf (fun hf => ?_) (fun hf => ?_)
  · refine x_bipush C d_M_send_19 (-3) ?_
    exact hR _ _ _ _ d_M_send_21.1 hf trivial
  refine x_aload_n C d_M_send_22 0 rfl ?_
  refine x_getr C d_M_send_23 f_M_words wd971 rfl rfl ?_
  refine x_aload_n C d_M_send_26 0 rfl ?_
  refine x_get C d_M_send_27 f_M_rowLong wd970 rfl rfl ?_
  refine x_iload_n C d_M_send_30 1 rfl ?_
  refine x_iast C d_M_send_31 rfl hf (fun S2 hf => ?_)
  refine x_aload_n C d_M_send_32 0 rfl ?_
  refine x_dup C d_M_send_33 rfl ?_
  refine x_get C d_M_send_34 f_M_rowLong wd970 rfl rfl ?_
  refine x_iconst C d_M_send_37 1 ?_
  refine x_iadd C d_M_send_38 ?_
  refine x_put C d_M_send_39 f_M_rowLong wd970 rfl rfl hf (fun S3 hf => ?_)
  refine x_aload_n C d_M_send_42 0 rfl ?_
  refine x_get C d_M_send_43 f_M_rowLong wd970 rfl rfl ?_
  exact hR _ _ _ _ d_M_send_46.1 hf trivial
set_option maxRecDepth 4000 in
theorem m_M_empty {w : Ww} {l0 : Launch} {F : Nat} {S : St} {r : Int32} {S9 : St}  (hf : M_empty F S = some (r, S9)) : MI shM w l0 y_M_empty b_M_empty 2 .int 0 [.ref (w.1 0)] S r S9 bzT := by
  refine MI.of (by decide) (Nat.le_of_ble_eq_true rfl) rfl (fun _ _ => rfl) (fun x hnL C hR => ?_)
  rw [M_empty] at hf
  refine x_aload_n C d_M_empty_0 0 rfl ?_
  refine x_get C d_M_empty_1 f_M_rowLong wd970 rfl rfl ?_
  refine x_bi hf (fun v1 hf => ?_)
  refine x_istore_n C d_M_empty_4 [(1, .int v1), (0, .ref (w.1 0))] (by rw [hnL]; decide) rfl ?_
  refine x_aload_n C d_M_empty_5 1 rfl ?_
  refine x_iconst C d_M_empty_6 0 ?_
  refine x_put C d_M_empty_7 f_M_rowLong wd970 rfl rfl hf (fun S2 hf => ?_)
  refine x_iload_n C d_M_empty_10 0 rfl ?_
  exact hR _ _ _ _ d_M_empty_11.1 hf trivial
set_option maxRecDepth 4000 in
theorem m_M_sent {w : Ww} {l0 : Launch} {F : Nat} {S : St} {p1 : Int32} {rs : Int32}  (hf : M_sent F S p1 = some rs) : MI shM w l0 y_M_sent b_M_sent 2 .int 1 [.ref (w.1 0), .int p1] S rs S bzT := by
  refine MI.of (by decide) (Nat.le_of_ble_eq_true rfl) rfl (fun _ _ => rfl) (fun x hnL C hR => ?_)
  rw [M_sent] at hf
  refine x_iload_n C d_M_sent_0 1 rfl ?_
  refine x_i2l C d_M_sent_1 ?_
  refine x_lconst C d_M_sent_2 0 ?_
  refine x_aload_n C d_M_sent_3 0 rfl ?_
  refine x_get C d_M_sent_4 f_M_rowLong wd970 rfl rfl ?_
  refine x_iconst C d_M_sent_7 1 ?_
  refine x_isub C d_M_sent_8 ?_
  refine x_i2l C d_M_sent_9 ?_
  refine x_csr C d_M_sent_10 wd1088 cm_M_in [.long (Int32.toInt64 p1), .long 0, .long (Int32.toInt64 ((S.1 0 4) - 1))] rfl rfl (by decide) (Nat.le_of_ble_eq_true rfl) hf (fun _ h => m_M_in h) (fun v1 hf hb_v1 => ?_)
  refine x_if_eq C d_M_sent_13 hf (fun hf => ?_) (fun hf => ?_)
  · refine x_iconst C d_M_sent_25 (-1) ?_
    exact x_retR hR d_M_sent_26 hf trivial
  refine x_aload_n C d_M_sent_16 0 rfl ?_
  refine x_getr C d_M_sent_17 f_M_words wd971 rfl rfl ?_
  refine x_iload_n C d_M_sent_20 1 rfl ?_
  refine x_iald C d_M_sent_21 rfl hf (fun hf => ?_)
  refine x_goto C d_M_sent_22 ?_
  exact x_retR hR d_M_sent_26 hf trivial
set_option maxRecDepth 4000 in
theorem m_M_ahead {w : Ww} {l0 : Launch} {F : Nat} {S : St} {p1 : Int32} {rs : Int32}  (hf : M_ahead F S p1 = some rs) : MI shM w l0 y_M_ahead b_M_ahead 2 .int 0 [.ref (w.1 0), .int p1] S rs S bzT := by
  refine MI.of (by decide) (Nat.le_of_ble_eq_true rfl) rfl (fun _ _ => rfl) (fun x hnL C hR => ?_)
  rw [M_ahead] at hf
  refine x_iload_n C d_M_ahead_0 1 rfl ?_
  refine x_if_ne C d_M_ahead_1 hf (fun hf => ?_) (fun hf => ?_)
  · refine x_iconst C d_M_ahead_4 0 ?_
    refine x_goto C d_M_ahead_5 ?_
    exact x_retR hR d_M_ahead_16 hf trivial
  refine x_aload_n C d_M_ahead_8 0 rfl ?_
  refine x_getr C d_M_ahead_9 f_M_words wd971 rfl rfl ?_
  refine x_iload_n C d_M_ahead_12 1 rfl ?_
  refine x_iconst C d_M_ahead_13 1 ?_
  refine x_isub C d_M_ahead_14 ?_
  refine x_iald C d_M_ahead_15 rfl hf (fun hf => ?_)
  exact x_retR hR d_M_ahead_16 hf trivial
set_option maxRecDepth 4000 in
theorem w_M_row_L45 {w : Ww} {l0 : Launch} {x : Cx} {F : Nat} {p1 : Int32} {rs : (Int32 × St)} {k3 : St → Int32 → Int32 → Int32 → Int32 → Int32 → Option (Int32 × St)} (hnL : x.2.2.2.2.2.2.2.2.2.2.2.2 = 9) (C : XC shM w "NeighbourWiresModel" b_M_row l0 3 x) (hR : RI shM w b_M_row bzT rs x)  (hk3 : ∀ (S4 : St) (v5 : Int32) (v6 : Int32) (v7 : Int32) (v8 : Int32) (v9 : Int32), k3 S4 v5 v6 v7 v8 v9 = some rs → WX shM w x S4 177 [(1, .int p1), (2, .int v5), (3, .int v6), (4, .int v7), (5, .int v8), (6, .int v9)] []) : ∀ (n : Nat) (S11 : St) (v12 : Int32) (v13 : Int32) (v14 : Int32) (v15 : Int32) (v16 : Int32) (v17 : Int32), M_row_L45 F p1 k3 n S11 v12 v13 v14 v15 v16 v17 = some rs → WX shM w x S11 45 [(0, .ref (w.1 0)), (1, .int p1), (2, .int v12), (3, .int v13), (4, .int v14), (5, .int v15), (6, .int v16), (7, .int v17)] [] := by
  intro n
  induction n with
  | zero => intro S11 v12 v13 v14 v15 v16 v17 hf; cases hf
  | succ n ih =>
    intro S11 v12 v13 v14 v15 v16 v17 hf
    rw [M_row_L45] at hf
    refine x_iload C d_M_row_45 7 rfl ?_
    refine x_aload_n C d_M_row_47 0 rfl ?_
    refine x_get C d_M_row_48 f_M_rowLong wd970 rfl rfl ?_
    refine x_icmp_ge C d_M_row_51 hf (fun hf => ?_) (fun hf => ?_)
    · refine x_aload_n C d_M_row_54 0 rfl ?_
      refine x_aload_n C d_M_row_55 0 rfl ?_
      refine x_iload C d_M_row_56 7 rfl ?_
      refine x_cvr C d_M_row_58 wd1226 cm_M_ahead rfl rfl [.int v17] rfl rfl (by decide) (Nat.le_of_ble_eq_true rfl) hf (fun _ h => m_M_ahead h) (fun v18 hf hb_v18 => ?_)
      refine x_aload_n C d_M_row_61 0 rfl ?_
      refine x_getr C d_M_row_62 f_M_words wd971 rfl rfl ?_
      refine x_iload C d_M_row_65 7 rfl ?_
      refine x_iald C d_M_row_67 rfl hf (fun hf => ?_)
      refine x_cvv C d_M_row_68 wd1164 cm_M_plainMoves rfl rfl [.int v18, .int (S11.1 1 (Int32.toNatClampNeg v17))] rfl rfl (by decide) (Nat.le_of_ble_eq_true rfl) hf (fun _ h => m_M_plainMoves h) (fun S19 hf => ?_)
      refine x_aload_n C d_M_row_71 0 rfl ?_
      refine x_cvr C d_M_row_72 wd1188 cm_M_slowNow rfl rfl [] rfl rfl (by decide) (Nat.le_of_ble_eq_true rfl) hf (fun _ h => m_M_slowNow h) (fun v20 hf hb_v20 => ?_)
      refine x_istore C d_M_row_75 [(8, .int v20), (0, .ref (w.1 0)), (1, .int p1), (2, .int v12), (3, .int v13), (4, .int v14), (5, .int v15), (6, .int v16), (7, .int v17)] (by rw [hnL]; decide) rfl ?_
      refine x_iload C d_M_row_77 0 rfl ?_
      refine x_iload_n C d_M_row_79 4 rfl ?_
      refine x_jn (fun J22 => ∀ (v21 : Int32), J22 v21 = some rs → WX shM w x S19 90 [(0, .ref (w.1 0)), (1, .int p1), (2, .int v12), (3, .int v13), (5, .int v15), (6, .int v16), (7, .int v17), (8, .int v20)] [.int v21]) hf (fun v21 hf => ?_) (fun J22 hJ22 hf => ?_)
      · refine x_istore C d_M_row_90 [(4, .int v21), (0, .ref (w.1 0)), (1, .int p1), (2, .int v12), (3, .int v13), (5, .int v15), (6, .int v16), (7, .int v17), (8, .int v20)] (by rw [hnL]; decide) rfl ?_
        refine x_iload C d_M_row_92 8 rfl ?_
        refine x_iload_n C d_M_row_94 4 rfl ?_
        refine x_jn (fun J24 => ∀ (v23 : Int32), J24 v23 = some rs → WX shM w x S19 104 [(0, .ref (w.1 0)), (1, .int p1), (2, .int v12), (4, .int v21), (5, .int v15), (6, .int v16), (7, .int v17), (8, .int v20)] [.int v23]) hf (fun v23 hf => ?_) (fun J24 hJ24 hf => ?_)
        · refine x_istore_n C d_M_row_104 [(3, .int v23), (0, .ref (w.1 0)), (1, .int p1), (2, .int v12), (4, .int v21), (5, .int v15), (6, .int v16), (7, .int v17), (8, .int v20)] (by rw [hnL]; decide) rfl ?_
          refine x_iload C d_M_row_105 5 rfl ?_
          refine x_iload C d_M_row_107 8 rfl ?_
          refine x_iload_n C d_M_row_109 2 rfl ?_
          refine x_bipush C d_M_row_110 10 ?_
          refine x_isub C d_M_row_112 ?_
          refine x_jn (fun J26 => ∀ (v25 : Int32), J26 v25 = some rs → WX shM w x S19 121 [(0, .ref (w.1 0)), (1, .int p1), (2, .int v12), (3, .int v23), (4, .int v21), (6, .int v16), (7, .int v17)] [.int v25, .int v15]) hf (fun v25 hf => ?_) (fun J26 hJ26 hf => ?_)
          · refine x_iadd C d_M_row_121 ?_
            refine x_bi hf (fun v27 hf => ?_)
            refine x_istore C d_M_row_122 [(5, .int v27), (0, .ref (w.1 0)), (1, .int p1), (2, .int v12), (3, .int v23), (4, .int v21), (6, .int v16), (7, .int v17)] (by rw [hnL]; decide) rfl ?_
            refine x_iload_n C d_M_row_124 3 rfl ?_
            refine x_iload_n C d_M_row_125 2 rfl ?_
            refine x_jn (fun J29 => ∀ (v28 : Int32), J29 v28 = some rs → WX shM w x S19 149 [(0, .ref (w.1 0)), (1, .int p1), (3, .int v23), (4, .int v21), (5, .int v27), (6, .int v16), (7, .int v17)] [.int v28, .int v12]) hf (fun v28 hf => ?_) (fun J29 hJ29 hf => ?_)
            · refine x_iadd C d_M_row_149 ?_
              refine x_bi hf (fun v30 hf => ?_)
              refine x_istore_n C d_M_row_150 [(2, .int v30), (0, .ref (w.1 0)), (1, .int p1), (3, .int v23), (4, .int v21), (5, .int v27), (6, .int v16), (7, .int v17)] (by rw [hnL]; decide) rfl ?_
              refine x_aload_n C d_M_row_151 1 rfl ?_
              refine x_cvr C d_M_row_152 wd1199 cm_M_noiseNow rfl rfl [] rfl rfl (by decide) (Nat.le_of_ble_eq_true rfl) hf (fun _ h => m_M_noiseNow h) (fun v31 hf hb_v31 => ?_)
              refine x_iload C d_M_row_155 6 rfl ?_
              refine x_jn (fun J33 => ∀ (v32 : Int32), J33 v32 = some rs → WX shM w x S19 169 [(0, .ref (w.1 0)), (1, .int p1), (2, .int v30), (3, .int v23), (4, .int v21), (5, .int v27), (7, .int v17)] [.int v32]) hf (fun v32 hf => ?_) (fun J33 hJ33 hf => ?_)
              · refine x_istore C d_M_row_169 [(6, .int v32), (0, .ref (w.1 0)), (1, .int p1), (2, .int v30), (3, .int v23), (4, .int v21), (5, .int v27), (7, .int v17)] (by rw [hnL]; decide) rfl ?_
                refine x_iinc C 1 d_M_row_171 7 rfl (by rw [hnL]; decide) hf (fun v34 => [(7, .int v34), (6, .int v32), (0, .ref (w.1 0)), (1, .int p1), (2, .int v30), (3, .int v23), (4, .int v21), (5, .int v27)]) (fun _ => rfl) (fun v34 hf => ?_)
                refine x_goto C d_M_row_174 ?_
                refine x_sub [2, 3, 4, 5, 6, 7, 1, 0] rfl ?_
                exact ih S19 v30 v23 v21 v27 v32 v34 hf
              refine x_icmp_le C d_M_row_157 hf (fun hf => ?_) (fun hf => ?_)
              · refine x_aload_n C d_M_row_160 1 rfl ?_
                refine x_cvr C d_M_row_161 wd1199 cm_M_noiseNow rfl rfl [] rfl rfl (by decide) (Nat.le_of_ble_eq_true rfl) hf (fun _ h => m_M_noiseNow h) (fun v35 hf hb_v35 => ?_)
                refine x_goto C d_M_row_164 ?_
                refine x_sub [1, 2, 0, 3, 4, 5, 7] rfl ?_
                exact hJ33 v35 hf
              refine x_iload C d_M_row_167 6 rfl ?_
              refine x_sub [1, 2, 0, 3, 4, 5, 7] rfl ?_
              exact hJ33 v16 hf
            refine x_if_ne C d_M_row_126 hf (fun hf => ?_) (fun hf => ?_)
            · refine x_aload_n C d_M_row_129 1 rfl ?_
              refine x_cvr C d_M_row_130 wd1176 cm_M_costNow rfl rfl [] rfl rfl (by decide) (Nat.le_of_ble_eq_true rfl) hf (fun _ h => m_M_costNow h) (fun v36 hf hb_v36 => ?_)
              refine x_goto C d_M_row_133 ?_
              refine x_sub [1, 2, 4, 5, 0, 6, 7] rfl ?_
              exact hJ29 v36 hf
            refine x_iload_n C d_M_row_136 2 rfl ?_
            refine x_iconst C d_M_row_137 3 ?_
            refine x_icmp_ne C d_M_row_138 hf (fun hf => ?_) (fun hf => ?_)
            · refine x_aload_n C d_M_row_141 1 rfl ?_
              refine x_cvr C d_M_row_142 wd1184 cm_M_movedNow rfl rfl [] rfl rfl (by decide) (Nat.le_of_ble_eq_true rfl) hf (fun _ h => m_M_movedNow h) (fun v37 hf hb_v37 => ?_)
              refine x_goto C d_M_row_145 ?_
              refine x_sub [1, 2, 4, 5, 0, 6, 7] rfl ?_
              exact hJ29 v37 hf
            refine x_iconst C d_M_row_148 0 ?_
            refine x_sub [1, 2, 4, 5, 0, 6, 7] rfl ?_
            exact hJ29 0 hf
          refine x_icmp_ne C d_M_row_113 hf (fun hf => ?_) (fun hf => ?_)
          · refine x_iconst C d_M_row_116 1 ?_
            refine x_goto C d_M_row_117 ?_
            refine x_sub [1, 2, 3, 0, 4, 6, 7] rfl ?_
            exact hJ26 1 hf
          refine x_iconst C d_M_row_120 0 ?_
          refine x_sub [1, 2, 3, 0, 4, 6, 7] rfl ?_
          exact hJ26 0 hf
        refine x_icmp_le C d_M_row_95 hf (fun hf => ?_) (fun hf => ?_)
        · refine x_iload C d_M_row_98 8 rfl ?_
          refine x_goto C d_M_row_100 ?_
          refine x_sub [1, 2, 3, 0, 5, 6, 7, 8] rfl ?_
          exact hJ24 v20 hf
        refine x_iload_n C d_M_row_103 4 rfl ?_
        refine x_sub [1, 2, 3, 0, 5, 6, 7, 8] rfl ?_
        exact hJ24 v13 hf
      refine x_icmp_le C d_M_row_80 hf (fun hf => ?_) (fun hf => ?_)
      · refine x_iload C d_M_row_83 8 rfl ?_
        refine x_goto C d_M_row_85 ?_
        refine x_sub [1, 2, 3, 4, 6, 7, 8, 0] rfl ?_
        exact hJ22 v17 hf
      refine x_iload C d_M_row_88 5 rfl ?_
      refine x_sub [1, 2, 3, 4, 6, 7, 8, 0] rfl ?_
      exact hJ22 v14 hf
    refine x_sub [1, 2, 3, 4, 5, 6] rfl ?_
    exact hk3 S11 v12 v13 v14 v15 v16 hf
set_option maxRecDepth 4000 in
theorem m_M_row {w : Ww} {l0 : Launch} {F : Nat} {S : St} {p1 : Int32} {r : Int32} {S9 : St}  (hf : M_row F S p1 = some (r, S9)) : MI shM w l0 y_M_row b_M_row 9 .int 3 [.ref (w.1 0), .int p1] S r S9 bzT := by
  refine MI.of (by decide) (Nat.le_of_ble_eq_true rfl) rfl (fun _ _ => rfl) (fun x hnL C hR => ?_)
  rw [M_row] at hf
  refine x_iload_n C d_M_row_0 1 rfl ?_
  refine x_i2l C d_M_row_1 ?_
  refine x_lconst C d_M_row_2 0 ?_
  refine x_ldc2 C d_M_row_3 wd1223 ?_
  refine x_csr C d_M_row_6 wd1088 cm_M_in [.long (Int32.toInt64 p1), .long 0, .long 4] rfl rfl (by decide) (Nat.le_of_ble_eq_true rfl) hf (fun _ h => m_M_in h) (fun v1 hf hb_v1 => ?_)
  refine x_jn (fun J2 => J2  = some (r, S9) → WX shM w x S 28 [(0, .ref (w.1 0)), (1, .int p1)] []) hf (fun hf => ?_) (fun J2 hJ2 hf => ?_)
  · refine x_iconst C d_M_row_28 0 ?_
    refine x_istore_n C d_M_row_29 [(2, .int 0), (0, .ref (w.1 0)), (1, .int p1)] (by rw [hnL]; decide) rfl ?_
    refine x_iconst C d_M_row_30 (-1) ?_
    refine x_istore_n C d_M_row_31 [(3, .int (-1)), (2, .int 0), (0, .ref (w.1 0)), (1, .int p1)] (by rw [hnL]; decide) rfl ?_
    refine x_bipush C d_M_row_32 (-4) ?_
    refine x_istore C d_M_row_34 [(4, .int (-4)), (3, .int (-1)), (2, .int 0), (0, .ref (w.1 0)), (1, .int p1)] (by rw [hnL]; decide) rfl ?_
    refine x_iconst C d_M_row_36 0 ?_
    refine x_istore C d_M_row_37 [(5, .int 0), (4, .int (-4)), (3, .int (-1)), (2, .int 0), (0, .ref (w.1 0)), (1, .int p1)] (by rw [hnL]; decide) rfl ?_
    refine x_iconst C d_M_row_39 0 ?_
    refine x_istore C d_M_row_40 [(6, .int 0), (5, .int 0), (4, .int (-4)), (3, .int (-1)), (2, .int 0), (0, .ref (w.1 0)), (1, .int p1)] (by rw [hnL]; decide) rfl ?_
    refine x_iconst C d_M_row_42 0 ?_
    refine x_istore C d_M_row_43 [(7, .int 0), (6, .int 0), (5, .int 0), (4, .int (-4)), (3, .int (-1)), (2, .int 0), (0, .ref (w.1 0)), (1, .int p1)] (by rw [hnL]; decide) rfl ?_
    refine x_sub [6, 7, 5, 4, 3, 2, 1, 0] rfl ?_
    refine w_M_row_L45 hnL C hR (fun S4 v5 v6 v7 v8 v9 hf => ?_) F S 0 (-1) (-4) 0 0 0 hf
    refine x_iload_n C d_M_row_177 0 rfl ?_
    refine x_jn (fun J10 => J10  = some (r, S9) → WX shM w x S4 186 [(2, .int v5)] []) hf (fun hf => ?_) (fun J10 hJ10 hf => ?_)
    · refine x_iload_n C d_M_row_186 0 rfl ?_
      refine x_goto C d_M_row_187 ?_
      exact hR _ _ _ _ d_M_row_229.1 hf trivial
    refine x_if_eq C d_M_row_178 hf (fun hf => ?_) (fun hf => ?_)
    · refine x_sub [1] rfl ?_
      exact hJ10  hf
    refine x_iload_n C d_M_row_181 0 rfl ?_
    refine x_iconst C d_M_row_182 3 ?_
    refine x_icmp_ne C d_M_row_183 hf (fun hf => ?_) (fun hf => ?_)
    · refine x_sub [1] rfl ?_
      exact hJ10  hf
    refine x_iload_n C d_M_row_190 0 rfl ?_
    refine x_iconst C d_M_row_191 1 ?_
    refine x_icmp_ne C d_M_row_192 hf (fun hf => ?_) (fun hf => ?_)
    · refine x_iload_n C d_M_row_195 2 rfl ?_
      refine x_if_ge C d_M_row_196 hf (fun hf => ?_) (fun hf => ?_)
      · refine x_iconst C d_M_row_199 0 ?_
        refine x_goto C d_M_row_200 ?_
        exact hR _ _ _ _ d_M_row_229.1 hf trivial
      refine x_iload_n C d_M_row_203 2 rfl ?_
      refine x_goto C d_M_row_204 ?_
      exact hR _ _ _ _ d_M_row_229.1 hf trivial
    refine x_iload_n C d_M_row_207 0 rfl ?_
    refine x_iconst C d_M_row_208 2 ?_
    refine x_icmp_ne C d_M_row_209 hf (fun hf => ?_) (fun hf => ?_)
    · refine x_iload C d_M_row_212 5 rfl ?_
      refine x_goto C d_M_row_214 ?_
      exact hR _ _ _ _ d_M_row_229.1 hf trivial
    refine x_iload_n C d_M_row_217 0 rfl ?_
    refine x_iconst C d_M_row_218 4 ?_
    refine x_icmp_ne C d_M_row_219 hf (fun hf => ?_) (fun hf => ?_)
    · refine x_iload C d_M_row_222 3 rfl ?_
      refine x_goto C d_M_row_224 ?_
      exact hR _ _ _ _ d_M_row_229.1 hf trivial
    refine x_iload C d_M_row_227 4 rfl ?_
    exact hR _ _ _ _ d_M_row_229.1 hf trivial
  refine x_if_ne C d_M_row_9 hf (fun hf => ?_) (fun hf => ?_)
  · refine x_iload_n C d_M_row_12 1 rfl ?_
    refine x_i2l C d_M_row_13 ?_
    refine x_ldc2 C d_M_row_14 wd1224 ?_
    refine x_ldc2 C d_M_row_17 wd1225 ?_
    refine x_csr C d_M_row_20 wd1088 cm_M_in [.long (Int32.toInt64 p1), .long 10, .long 14] rfl rfl (by decide) (Nat.le_of_ble_eq_true rfl) hf (fun _ h => m_M_in h) (fun v38 hf hb_v38 => ?_)
    refine x_if_ne C d_M_row_23 hf (fun hf => ?_) (fun hf => ?_)
    · refine x_iconst C d_M_row_26 (-1) ?_
      exact hR _ _ _ _ d_M_row_27.1 hf trivial
    exact hJ2  hf
  exact hJ2  hf
set_option maxRecDepth 4000 in
theorem m_M_swaps {w : Ww} {l0 : Launch} {F : Nat} {S : St} {p1 : Int32} {p2 : Int32} {rs : St}  (hf : M_swaps F S p1 p2 = some rs) : MV shM w l0 y_M_swaps b_M_swaps 4 0 [.ref (w.1 0), .int p1, .int p2] S rs := by
  refine MV.of (by decide) (Nat.le_of_ble_eq_true rfl) rfl (fun x hnL C hR => ?_)
  rw [M_swaps] at hf
  refine x_aload_n C d_M_swaps_0 0 rfl ?_
  refine x_getr C d_M_swaps_1 f_M_tried wd993 rfl rfl ?_
  refine x_iload_n C d_M_swaps_4 1 rfl ?_
  refine x_iald C d_M_swaps_5 rfl hf (fun hf => ?_)
  refine x_bi hf (fun v1 hf => ?_)
  refine x_istore_n C d_M_swaps_6 [(3, .int v1), (0, .ref (w.1 0)), (1, .int p1), (2, .int p2)] (by rw [hnL]; decide) rfl ?_
  refine x_aload_n C d_M_swaps_7 1 rfl ?_
  refine x_getr C d_M_swaps_8 f_M_tried wd993 rfl rfl ?_
  refine x_iload_n C d_M_swaps_11 2 rfl ?_
  refine x_aload_n C d_M_swaps_12 1 rfl ?_
  refine x_getr C d_M_swaps_13 f_M_tried wd993 rfl rfl ?_
  refine x_iload_n C d_M_swaps_16 3 rfl ?_
  refine x_iald C d_M_swaps_17 rfl hf (fun hf => ?_)
  refine x_iast C d_M_swaps_18 rfl hf (fun S2 hf => ?_)
  refine x_aload_n C d_M_swaps_19 1 rfl ?_
  refine x_getr C d_M_swaps_20 f_M_tried wd993 rfl rfl ?_
  refine x_iload_n C d_M_swaps_23 3 rfl ?_
  refine x_iload_n C d_M_swaps_24 0 rfl ?_
  refine x_iast C d_M_swaps_25 rfl hf (fun S3 hf => ?_)
  exact hR _ _ _ d_M_swaps_26.1 hf
set_option maxRecDepth 4000 in
theorem w_M_goesOn_L86 {w : Ww} {l0 : Launch} {x : Cx} {F : Nat}  {rs : (Int32 × St)}  (hnL : x.2.2.2.2.2.2.2.2.2.2.2.2 = 5) (C : XC shM w "NeighbourWiresModel" b_M_goesOn l0 1 x) (hR : RI shM w b_M_goesOn bz01 rs x)   : ∀ (n : Nat) (S10 : St) (v11 : Int32) (v12 : Int32), M_goesOn_L86 F n S10 v11 v12 = some rs → WX shM w x S10 86 [(0, .ref (w.1 0)), (3, .int v11), (4, .int v12)] [] := by
  intro n
  induction n with
  | zero => intro S10 v11 v12 hf; cases hf
  | succ n ih =>
    intro S10 v11 v12 hf
    rw [M_goesOn_L86] at hf
    refine x_iload_n C d_M_goesOn_86 1 rfl ?_
    refine x_iload C d_M_goesOn_87 2 rfl ?_
    refine x_icmp_ge C d_M_goesOn_89 hf (fun hf => ?_) (fun hf => ?_)
    · refine x_aload_n C d_M_goesOn_92 0 rfl ?_
      refine x_iload_n C d_M_goesOn_93 1 rfl ?_
      refine x_iload C d_M_goesOn_94 2 rfl ?_
      refine x_cvv C d_M_goesOn_96 wd1239 cm_M_swaps rfl rfl [.int v11, .int v12] rfl rfl (by decide) (Nat.le_of_ble_eq_true rfl) hf (fun _ h => m_M_swaps h) (fun S13 hf => ?_)
      refine x_iinc C 1 d_M_goesOn_99 1 rfl (by rw [hnL]; decide) hf (fun v14 => [(3, .int v14), (0, .ref (w.1 0)), (4, .int v12)]) (fun _ => rfl) (fun v14 hf => ?_)
      refine x_iinc C (-1) d_M_goesOn_102 2 rfl (by rw [hnL]; decide) hf (fun v15 => [(4, .int v15), (3, .int v14), (0, .ref (w.1 0))]) (fun _ => rfl) (fun v15 hf => ?_)
      refine x_goto C d_M_goesOn_105 ?_
      refine x_sub [2, 1, 0] rfl ?_
      exact ih S13 v14 v15 hf
    refine x_iconst C d_M_goesOn_108 1 ?_
    exact hR _ _ _ _ d_M_goesOn_109.1 hf (Or.inr rfl)
set_option maxRecDepth 4000 in
theorem w_M_goesOn_L47 {w : Ww} {l0 : Launch} {x : Cx} {F : Nat} {S : St} {v3 : Int32} {rs : (Int32 × St)} {k5 : Int32 → Option (Int32 × St)} (hnL : x.2.2.2.2.2.2.2.2.2.2.2.2 = 5) (C : XC shM w "NeighbourWiresModel" b_M_goesOn l0 1 x) (hR : RI shM w b_M_goesOn bz01 rs x)  (hk5 : ∀ (v6 : Int32), k5 v6 = some rs → WX shM w x S 68 [(0, .ref (w.1 0)), (1, .int v3), (2, .int v6)] []) : ∀ (n : Nat) (v16 : Int32), M_goesOn_L47 F S v3 k5 n v16 = some rs → WX shM w x S 47 [(0, .ref (w.1 0)), (1, .int v3), (2, .int v16)] [] := by
  intro n
  induction n with
  | zero => intro v16 hf; cases hf
  | succ n ih =>
    intro v16 hf
    rw [M_goesOn_L47] at hf
    refine x_aload_n C d_M_goesOn_47 0 rfl ?_
    refine x_getr C d_M_goesOn_48 f_M_tried wd993 rfl rfl ?_
    refine x_iload_n C d_M_goesOn_51 2 rfl ?_
    refine x_iald C d_M_goesOn_52 rfl hf (fun hf => ?_)
    refine x_aload_n C d_M_goesOn_53 0 rfl ?_
    refine x_getr C d_M_goesOn_54 f_M_tried wd993 rfl rfl ?_
    refine x_iload_n C d_M_goesOn_57 1 rfl ?_
    refine x_iald C d_M_goesOn_58 rfl hf (fun hf => ?_)
    refine x_icmp_ge C d_M_goesOn_59 hf (fun hf => ?_) (fun hf => ?_)
    · refine x_iinc C (-1) d_M_goesOn_62 2 rfl (by rw [hnL]; decide) hf (fun v17 => [(2, .int v17), (0, .ref (w.1 0)), (1, .int v3)]) (fun _ => rfl) (fun v17 hf => ?_)
      refine x_goto C d_M_goesOn_65 ?_
      refine x_sub [1, 2, 0] rfl ?_
      exact ih v17 hf
    exact hk5 v16 hf
set_option maxRecDepth 4000 in
theorem w_M_goesOn_L7 {w : Ww} {l0 : Launch} {x : Cx} {F : Nat} {S : St} {rs : (Int32 × St)} {k2 : Int32 → Option (Int32 × St)} (hnL : x.2.2.2.2.2.2.2.2.2.2.2.2 = 5) (C : XC shM w "NeighbourWiresModel" b_M_goesOn l0 1 x) (hR : RI shM w b_M_goesOn bz01 rs x)  (hk2 : ∀ (v3 : Int32), k2 v3 = some rs → WX shM w x S 34 [(0, .ref (w.1 0)), (1, .int v3)] []) : ∀ (n : Nat) (v18 : Int32), M_goesOn_L7 F S k2 n v18 = some rs → WX shM w x S 7 [(0, .ref (w.1 0)), (1, .int v18)] [] := by
  intro n
  induction n with
  | zero => intro v18 hf; cases hf
  | succ n ih =>
    intro v18 hf
    rw [M_goesOn_L7] at hf
    refine x_iload_n C d_M_goesOn_7 1 rfl ?_
    refine x_if_lt C d_M_goesOn_8 hf (fun hf => ?_) (fun hf => ?_)
    · exact hk2 v18 hf
    refine x_aload_n C d_M_goesOn_11 0 rfl ?_
    refine x_getr C d_M_goesOn_12 f_M_tried wd993 rfl rfl ?_
    refine x_iload_n C d_M_goesOn_15 1 rfl ?_
    refine x_iald C d_M_goesOn_16 rfl hf (fun hf => ?_)
    refine x_aload_n C d_M_goesOn_17 0 rfl ?_
    refine x_getr C d_M_goesOn_18 f_M_tried wd993 rfl rfl ?_
    refine x_iload_n C d_M_goesOn_21 1 rfl ?_
    refine x_iconst C d_M_goesOn_22 1 ?_
    refine x_iadd C d_M_goesOn_23 ?_
    refine x_iald C d_M_goesOn_24 rfl hf (fun hf => ?_)
    refine x_icmp_le C d_M_goesOn_25 hf (fun hf => ?_) (fun hf => ?_)
    · refine x_iinc C (-1) d_M_goesOn_28 1 rfl (by rw [hnL]; decide) hf (fun v19 => [(1, .int v19), (0, .ref (w.1 0))]) (fun _ => rfl) (fun v19 hf => ?_)
      refine x_goto C d_M_goesOn_31 ?_
      refine x_sub [1, 0] rfl ?_
      exact ih v19 hf
    exact hk2 v18 hf
set_option maxRecDepth 4000 in
theorem m_M_goesOn {w : Ww} {l0 : Launch} {F : Nat} {S : St} {r : Int32} {S9 : St}  (hf : M_goesOn F S = some (r, S9)) : MI shM w l0 y_M_goesOn b_M_goesOn 5 .boolean 1 [.ref (w.1 0)] S r S9 bz01 := by
  refine MI.of (by decide) (Nat.le_of_ble_eq_true rfl) rfl (fun v hb => by rcases hb with rfl | rfl <;> decide) (fun x hnL C hR => ?_)
  rw [M_goesOn] at hf
  refine x_aload_n C d_M_goesOn_0 0 rfl ?_
  refine x_get C d_M_goesOn_1 f_M_wires wd966 rfl rfl ?_
  refine x_iconst C d_M_goesOn_4 2 ?_
  refine x_isub C d_M_goesOn_5 ?_
  refine x_bi hf (fun v1 hf => ?_)
  refine x_istore_n C d_M_goesOn_6 [(1, .int v1), (0, .ref (w.1 0))] (by rw [hnL]; decide) rfl ?_
  refine x_sub [1, 0] rfl ?_
  refine w_M_goesOn_L7 hnL C hR (fun v3 hf => ?_) F v1 hf
  refine x_iload_n C d_M_goesOn_34 1 rfl ?_
  refine x_if_ge C d_M_goesOn_35 hf (fun hf => ?_) (fun hf => ?_)
  · refine x_iconst C d_M_goesOn_38 0 ?_
    exact hR _ _ _ _ d_M_goesOn_39.1 hf (Or.inl rfl)
  refine x_aload_n C d_M_goesOn_40 0 rfl ?_
  refine x_get C d_M_goesOn_41 f_M_wires wd966 rfl rfl ?_
  refine x_iconst C d_M_goesOn_44 1 ?_
  refine x_isub C d_M_goesOn_45 ?_
  refine x_bi hf (fun v4 hf => ?_)
  refine x_istore_n C d_M_goesOn_46 [(2, .int v4), (0, .ref (w.1 0)), (1, .int v3)] (by rw [hnL]; decide) rfl ?_
  refine x_sub [1, 2, 0] rfl ?_
  refine w_M_goesOn_L47 hnL C hR (fun v6 hf => ?_) F v4 hf
  refine x_aload_n C d_M_goesOn_68 0 rfl ?_
  refine x_iload_n C d_M_goesOn_69 1 rfl ?_
  refine x_iload_n C d_M_goesOn_70 2 rfl ?_
  refine x_cvv C d_M_goesOn_71 wd1239 cm_M_swaps rfl rfl [.int v3, .int v6] rfl rfl (by decide) (Nat.le_of_ble_eq_true rfl) hf (fun _ h => m_M_swaps h) (fun S7 hf => ?_)
  refine x_iload_n C d_M_goesOn_74 1 rfl ?_
  refine x_iconst C d_M_goesOn_75 1 ?_
  refine x_iadd C d_M_goesOn_76 ?_
  refine x_bi hf (fun v8 hf => ?_)
  refine x_istore_n C d_M_goesOn_77 [(3, .int v8), (0, .ref (w.1 0)), (1, .int v3), (2, .int v6)] (by rw [hnL]; decide) rfl ?_
  refine x_aload_n C d_M_goesOn_78 1 rfl ?_
  refine x_get C d_M_goesOn_79 f_M_wires wd966 rfl rfl ?_
  refine x_iconst C d_M_goesOn_82 1 ?_
  refine x_isub C d_M_goesOn_83 ?_
  refine x_bi hf (fun v9 hf => ?_)
  refine x_istore C d_M_goesOn_84 [(4, .int v9), (3, .int v8), (0, .ref (w.1 0)), (1, .int v3), (2, .int v6)] (by rw [hnL]; decide) rfl ?_
  refine x_sub [2, 1, 0] rfl ?_
  exact w_M_goesOn_L86 hnL C hR  F S7 v8 v9 hf
