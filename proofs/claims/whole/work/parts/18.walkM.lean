set_option maxRecDepth 4000 in
theorem m_M_in {w : Ww} {l0 : Launch} {F : Nat} {S : St} {p1 : Int64} {p2 : Int64} {p3 : Int64} {rs : Int32}  (hf : M_in F S p1 p2 p3 = some rs) : MI shM w l0 y_M_in b_M_in 6 .boolean 0 [.long p1, .long p2, .long p3] S rs S bz01 := by
  refine MI.of (by decide) (Nat.le_of_ble_eq_true rfl) rfl (fun v hb => by rcases hb with rfl | rfl <;> decide) (fun x hnL C hR => ?_)
  rw [M_in] at hf
  refine x_lload_n C d_M_in_0 0 rfl ?_
  refine x_lload_n C d_M_in_1 1 rfl ?_
  refine x_lcmp C d_M_in_2 ?_
  refine x_jn (fun J1 => J1  = some rs → WX shM w x S 17 [] []) hf (fun hf => ?_) (fun J1 hJ1 hf => ?_)
  · refine x_iconst C d_M_in_17 0 ?_
    exact x_retR hR d_M_in_18 hf (Or.inl rfl)
  refine x_if_lt C d_M_in_3 hf (fun hf => ?_) (fun hf => ?_)
  · refine x_sub [] rfl ?_
    exact hJ1  hf
  refine x_lload_n C d_M_in_6 0 rfl ?_
  refine x_lload C d_M_in_7 2 rfl ?_
  refine x_lcmp C d_M_in_9 ?_
  refine x_if_gt C d_M_in_10 hf (fun hf => ?_) (fun hf => ?_)
  · refine x_sub [] rfl ?_
    exact hJ1  hf
  refine x_iconst C d_M_in_13 1 ?_
  refine x_goto C d_M_in_14 ?_
  exact x_retR hR d_M_in_18 hf (Or.inr rfl)
set_option maxRecDepth 4000 in
theorem w_M_countOf_L4 {w : Ww} {l0 : Launch} {x : Cx} {F : Nat} {p1 : Int32} {S : St} {rs : Int32}  (hnL : x.2.2.2.2.2.2.2.2.2.2.2.2 = 3) (C : XC shM w "NeighbourWiresModel" b_M_countOf l0 0 x) (hR : RI shM w b_M_countOf bzT (rs, S) x)   : ∀ (n : Nat) (v1 : Int32) (v2 : Int32), M_countOf_L4 F p1 S n v1 v2 = some rs → WX shM w x S 4 [(0, .int p1), (1, .int v1), (2, .int v2)] [] := by
  intro n
  induction n with
  | zero => intro v1 v2 hf; cases hf
  | succ n ih =>
    intro v1 v2 hf
    rw [M_countOf_L4] at hf
    refine x_iload_n C d_M_countOf_4 2 rfl ?_
    refine x_bipush C d_M_countOf_5 16 ?_
    refine x_icmp_ge C d_M_countOf_7 hf (fun hf => ?_) (fun hf => ?_)
    · refine x_iload_n C d_M_countOf_10 1 rfl ?_
      refine x_iload_n C d_M_countOf_11 0 rfl ?_
      refine x_iload_n C d_M_countOf_12 2 rfl ?_
      refine x_ishr C d_M_countOf_13 ?_
      refine x_iconst C d_M_countOf_14 1 ?_
      refine x_iand C d_M_countOf_15 ?_
      refine x_iadd C d_M_countOf_16 ?_
      refine x_bi hf (fun v3 hf => ?_)
      refine x_istore_n C d_M_countOf_17 [(1, .int v3), (0, .int p1), (2, .int v2)] (by rw [hnL]; decide) rfl ?_
      refine x_iinc C 1 d_M_countOf_18 2 rfl (by rw [hnL]; decide) hf (fun v4 => [(2, .int v4), (1, .int v3), (0, .int p1)]) (fun _ => rfl) (fun v4 hf => ?_)
      refine x_goto C d_M_countOf_21 ?_
      refine x_sub [2, 1, 0] rfl ?_
      exact ih v3 v4 hf
    refine x_iload_n C d_M_countOf_24 1 rfl ?_
    exact x_retR hR d_M_countOf_25 hf trivial
set_option maxRecDepth 4000 in
theorem m_M_countOf {w : Ww} {l0 : Launch} {F : Nat} {S : St} {p1 : Int32} {rs : Int32}  (hf : M_countOf F S p1 = some rs) : MI shM w l0 y_M_countOf b_M_countOf 3 .int 0 [.int p1] S rs S bzT := by
  refine MI.of (by decide) (Nat.le_of_ble_eq_true rfl) rfl (fun _ _ => rfl) (fun x hnL C hR => ?_)
  rw [M_countOf] at hf
  refine x_iconst C d_M_countOf_0 0 ?_
  refine x_istore_n C d_M_countOf_1 [(1, .int 0), (0, .int p1)] (by rw [hnL]; decide) rfl ?_
  refine x_iconst C d_M_countOf_2 0 ?_
  refine x_istore_n C d_M_countOf_3 [(2, .int 0), (1, .int 0), (0, .int p1)] (by rw [hnL]; decide) rfl ?_
  refine x_sub [2, 1, 0] rfl ?_
  exact w_M_countOf_L4 hnL C hR  F 0 0 hf
set_option maxRecDepth 4000 in
theorem m_M_plain {w : Ww} {l0 : Launch} {F : Nat} {S : St} {p1 : Int32} {rs : Int32}  (hf : M_plain F S p1 = some rs) : MI shM w l0 y_M_plain b_M_plain 1 .int 0 [.int p1] S rs S bzT := by
  refine MI.of (by decide) (Nat.le_of_ble_eq_true rfl) rfl (fun _ _ => rfl) (fun x hnL C hR => ?_)
  rw [M_plain] at hf
  refine x_iload_n C d_M_plain_0 0 rfl ?_
  refine x_if_ge C d_M_plain_1 hf (fun hf => ?_) (fun hf => ?_)
  · refine x_iload_n C d_M_plain_4 0 rfl ?_
    refine x_ineg C d_M_plain_5 ?_
    refine x_goto C d_M_plain_6 ?_
    exact x_retR hR d_M_plain_10 hf trivial
  refine x_iload_n C d_M_plain_9 0 rfl ?_
  exact x_retR hR d_M_plain_10 hf trivial
set_option maxRecDepth 4000 in
theorem w_M_feed_L19 {w : Ww} {l0 : Launch} {x : Cx} {F : Nat} {p1 : Int64} {rs : (Int32 × St)} {k1 : St → Option (Int32 × St)} (hnL : x.2.2.2.2.2.2.2.2.2.2.2.2 = 4) (C : XC shM w "NeighbourWiresModel" b_M_feed l0 0 x) (hR : RI shM w b_M_feed bzT rs x)  (hk1 : ∀ (S2 : St), k1 S2 = some rs → WX shM w x S2 56 [(0, .ref (w.1 0))] []) : ∀ (n : Nat) (S3 : St) (v4 : Int32), M_feed_L19 F p1 k1 n S3 v4 = some rs → WX shM w x S3 19 [(0, .ref (w.1 0)), (1, .long p1), (3, .int v4)] [] := by
  intro n
  induction n with
  | zero => intro S3 v4 hf; cases hf
  | succ n ih =>
    intro S3 v4 hf
    rw [M_feed_L19] at hf
    refine x_iload_n C d_M_feed_19 2 rfl ?_
    refine x_if_lt C d_M_feed_20 hf (fun hf => ?_) (fun hf => ?_)
    · refine x_sub [0] rfl ?_
      exact hk1 S3 hf
    refine x_aload_n C d_M_feed_23 0 rfl ?_
    refine x_getr C d_M_feed_24 f_M_tape wd980 rfl rfl ?_
    refine x_aload_n C d_M_feed_27 0 rfl ?_
    refine x_get C d_M_feed_28 f_M_taped wd981 rfl rfl ?_
    refine x_lload_n C d_M_feed_31 1 rfl ?_
    refine x_iload_n C d_M_feed_32 2 rfl ?_
    refine x_lshr C d_M_feed_33 ?_
    refine x_ldc2 C d_M_feed_34 wd1083 ?_
    refine x_land C d_M_feed_37 ?_
    refine x_l2i C d_M_feed_38 ?_
    refine x_iast C d_M_feed_39 rfl hf (fun S5 hf => ?_)
    refine x_aload_n C d_M_feed_40 0 rfl ?_
    refine x_dup C d_M_feed_41 rfl ?_
    refine x_get C d_M_feed_42 f_M_taped wd981 rfl rfl ?_
    refine x_iconst C d_M_feed_45 1 ?_
    refine x_iadd C d_M_feed_46 ?_
    refine x_put C d_M_feed_47 f_M_taped wd981 rfl rfl hf (fun S6 hf => ?_)
    refine x_iinc C (-8) d_M_feed_50 2 rfl (by rw [hnL]; decide) hf (fun v7 => [(3, .int v7), (0, .ref (w.1 0)), (1, .long p1)]) (fun _ => rfl) (fun v7 hf => ?_)
    refine x_goto C d_M_feed_53 ?_
    refine x_sub [1, 2, 0] rfl ?_
    exact ih S6 v7 hf
set_option maxRecDepth 4000 in
theorem m_M_feed {w : Ww} {l0 : Launch} {F : Nat} {S : St} {p1 : Int64} {r : Int32} {S9 : St}  (hf : M_feed F S p1 = some (r, S9)) : MI shM w l0 y_M_feed b_M_feed 4 .int 0 [.ref (w.1 0), .long p1] S r S9 bzT := by
  refine MI.of (by decide) (Nat.le_of_ble_eq_true rfl) rfl (fun _ _ => rfl) (fun x hnL C hR => ?_)
  rw [M_feed] at hf
  refine x_aload_n C d_M_feed_0 0 rfl ?_
  refine x_get C d_M_feed_1 f_M_taped wd981 rfl rfl ?_
  refine x_bipush C d_M_feed_4 8 ?_
  refine x_iadd C d_M_feed_6 ?_
  refine x_sipush C d_M_feed_7 240 ?_
  refine x_icmp_le C d_M_feed_10 hf (fun hf => ?_) (fun hf => ?_)
  · refine x_bipush C d_M_feed_13 (-3) ?_
    exact hR _ _ _ _ d_M_feed_15.1 hf trivial
  refine x_bipush C d_M_feed_16 56 ?_
  refine x_istore_n C d_M_feed_18 [(3, .int 56), (0, .ref (w.1 0)), (1, .long p1)] (by rw [hnL]; decide) rfl ?_
  refine x_sub [1, 2, 0] rfl ?_
  refine w_M_feed_L19 hnL C hR (fun S2 hf => ?_) F S 56 hf
  refine x_aload_n C d_M_feed_56 0 rfl ?_
  refine x_get C d_M_feed_57 f_M_taped wd981 rfl rfl ?_
  exact hR _ _ _ _ d_M_feed_60.1 hf trivial
set_option maxRecDepth 4000 in
theorem m_M_end {w : Ww} {l0 : Launch} {F : Nat} {S : St} {p1 : Int32} {r : Int32} {S9 : St}  (hf : M_end F S p1 = some (r, S9)) : MI shM w l0 y_M_end b_M_end 3 .int 1 [.ref (w.1 0), .int p1] S r S9 bzT := by
  refine MI.of (by decide) (Nat.le_of_ble_eq_true rfl) rfl (fun _ _ => rfl) (fun x hnL C hR => ?_)
  rw [M_end] at hf
  refine x_iload_n C d_M_end_0 1 rfl ?_
  refine x_i2l C d_M_end_1 ?_
  refine x_lconst C d_M_end_2 0 ?_
  refine x_aload_n C d_M_end_3 0 rfl ?_
  refine x_get C d_M_end_4 f_M_taped wd981 rfl rfl ?_
  refine x_i2l C d_M_end_7 ?_
  refine x_csr C d_M_end_8 wd1088 cm_M_in [.long (Int32.toInt64 p1), .long 0, .long (Int32.toInt64 (S.1 0 15))] rfl rfl (by decide) (Nat.le_of_ble_eq_true rfl) hf (fun _ h => m_M_in h) (fun v1 hf hb_v1 => ?_)
  refine x_if_ne C d_M_end_11 hf (fun hf => ?_) (fun hf => ?_)
  · refine x_iconst C d_M_end_14 (-1) ?_
    exact hR _ _ _ _ d_M_end_15.1 hf trivial
  refine x_aload_n C d_M_end_16 0 rfl ?_
  refine x_get C d_M_end_17 f_M_taped wd981 rfl rfl ?_
  refine x_bi hf (fun v2 hf => ?_)
  refine x_istore_n C d_M_end_20 [(2, .int v2), (0, .ref (w.1 0)), (1, .int p1)] (by rw [hnL]; decide) rfl ?_
  refine x_aload_n C d_M_end_21 1 rfl ?_
  refine x_iload_n C d_M_end_22 2 rfl ?_
  refine x_put C d_M_end_23 f_M_taped wd981 rfl rfl hf (fun S3 hf => ?_)
  refine x_iload_n C d_M_end_26 0 rfl ?_
  exact hR _ _ _ _ d_M_end_27.1 hf trivial
set_option maxRecDepth 4000 in
theorem m_M_wants {w : Ww} {l0 : Launch} {F : Nat} {S : St} {p1 : Int32} {p2 : Int32} {rs : St}  (hf : M_wants F S p1 p2 = some rs) : MV shM w l0 y_M_wants b_M_wants 3 0 [.ref (w.1 0), .int p1, .int p2] S rs := by
  refine MV.of (by decide) (Nat.le_of_ble_eq_true rfl) rfl (fun x hnL C hR => ?_)
  rw [M_wants] at hf
  refine x_iload_n C d_M_wants_0 1 rfl ?_
  refine x_if_ne C d_M_wants_1 hf (fun hf => ?_) (fun hf => ?_)
  · refine x_aload_n C d_M_wants_4 0 rfl ?_
    refine x_get C d_M_wants_5 f_M_fault wd986 rfl rfl ?_
    refine x_if_ne C d_M_wants_8 hf (fun hf => ?_) (fun hf => ?_)
    · refine x_aload_n C d_M_wants_11 0 rfl ?_
      refine x_iload_n C d_M_wants_12 2 rfl ?_
      refine x_put C d_M_wants_13 f_M_fault wd986 rfl rfl hf (fun S1 hf => ?_)
      refine x_aload_n C d_M_wants_16 0 rfl ?_
      refine x_aload_n C d_M_wants_17 0 rfl ?_
      refine x_get C d_M_wants_18 f_M_from wd983 rfl rfl ?_
      refine x_put C d_M_wants_21 f_M_wrongAt wd987 rfl rfl hf (fun S2 hf => ?_)
      exact hR _ _ _ d_M_wants_24.1 hf
    exact hR _ _ _ d_M_wants_24.1 hf
  exact hR _ _ _ d_M_wants_24.1 hf
set_option maxRecDepth 4000 in
theorem m_M_look {w : Ww} {l0 : Launch} {F : Nat} {S : St} {p1 : Int32} {rs : Int32}  (hf : M_look F S p1 = some rs) : MI shM w l0 y_M_look b_M_look 2 .int 0 [.ref (w.1 0), .int p1] S rs S bzT := by
  refine MI.of (by decide) (Nat.le_of_ble_eq_true rfl) rfl (fun _ _ => rfl) (fun x hnL C hR => ?_)
  rw [M_look] at hf
  refine x_iload_n C d_M_look_0 1 rfl ?_
  refine x_aload_n C d_M_look_1 0 rfl ?_
  refine x_get C d_M_look_2 f_M_taped wd981 rfl rfl ?_
  refine x_icmp_ge C d_M_look_5 hf (fun hf => ?_) (fun hf => ?_)
  · refine x_aload_n C d_M_look_8 0 rfl ?_
    refine x_getr C d_M_look_9 f_M_tape wd980 rfl rfl ?_
    refine x_iload_n C d_M_look_12 1 rfl ?_
    refine x_iald C d_M_look_13 rfl hf (fun hf => ?_)
    refine x_goto C d_M_look_14 ?_
    exact x_retR hR d_M_look_18 hf trivial
  refine x_iconst C d_M_look_17 (-1) ?_
  exact x_retR hR d_M_look_18 hf trivial
set_option maxRecDepth 4000 in
theorem m_M_is {w : Ww} {l0 : Launch} {F : Nat} {S : St} {p1 : Int32} {p2 : Int32} {p3 : Int32} {p4 : Int32} {p5 : Int32} {rs : Int32}  (hf : M_is F S p1 p2 p3 p4 p5 = some rs) : MI shM w l0 y_M_is b_M_is 6 .boolean 1 [.ref (w.1 0), .int p1, .int p2, .int p3, .int p4, .int p5] S rs S bz01 := by
  refine MI.of (by decide) (Nat.le_of_ble_eq_true rfl) rfl (fun v hb => by rcases hb with rfl | rfl <;> decide) (fun x hnL C hR => ?_)
  rw [M_is] at hf
  refine x_aload_n C d_M_is_0 0 rfl ?_
  refine x_get C d_M_is_1 f_M_pos wd982 rfl rfl ?_
  refine x_aload_n C d_M_is_4 0 rfl ?_
  refine x_get C d_M_is_5 f_M_from wd983 rfl rfl ?_
  refine x_isub C d_M_is_8 ?_
  refine x_iload_n C d_M_is_9 1 rfl ?_
  refine x_jn (fun J1 => J1  = some rs → WX shM w x S 78 [] []) hf (fun hf => ?_) (fun J1 hJ1 hf => ?_)
  · refine x_iconst C d_M_is_78 0 ?_
    exact x_retR hR d_M_is_79 hf (Or.inl rfl)
  refine x_icmp_ne C d_M_is_10 hf (fun hf => ?_) (fun hf => ?_)
  · refine x_aload_n C d_M_is_13 0 rfl ?_
    refine x_aload_n C d_M_is_14 0 rfl ?_
    refine x_get C d_M_is_15 f_M_from wd983 rfl rfl ?_
    refine x_cvr C d_M_is_18 wd1099 cm_M_look rfl rfl [.int (S.1 0 17)] rfl rfl (by decide) (Nat.le_of_ble_eq_true rfl) hf (fun _ h => m_M_look h) (fun v2 hf hb_v2 => ?_)
    refine x_iload_n C d_M_is_21 2 rfl ?_
    refine x_icmp_ne C d_M_is_22 hf (fun hf => ?_) (fun hf => ?_)
    · refine x_aload_n C d_M_is_25 0 rfl ?_
      refine x_aload_n C d_M_is_26 0 rfl ?_
      refine x_get C d_M_is_27 f_M_from wd983 rfl rfl ?_
      refine x_iconst C d_M_is_30 1 ?_
      refine x_iadd C d_M_is_31 ?_
      refine x_cvr C d_M_is_32 wd1099 cm_M_look rfl rfl [.int ((S.1 0 17) + 1)] rfl rfl (by decide) (Nat.le_of_ble_eq_true rfl) hf (fun _ h => m_M_look h) (fun v3 hf hb_v3 => ?_)
      refine x_iload_n C d_M_is_35 3 rfl ?_
      refine x_icmp_ne C d_M_is_36 hf (fun hf => ?_) (fun hf => ?_)
      · refine x_aload_n C d_M_is_39 0 rfl ?_
        refine x_aload_n C d_M_is_40 0 rfl ?_
        refine x_get C d_M_is_41 f_M_from wd983 rfl rfl ?_
        refine x_iconst C d_M_is_44 2 ?_
        refine x_iadd C d_M_is_45 ?_
        refine x_cvr C d_M_is_46 wd1099 cm_M_look rfl rfl [.int ((S.1 0 17) + 2)] rfl rfl (by decide) (Nat.le_of_ble_eq_true rfl) hf (fun _ h => m_M_look h) (fun v4 hf hb_v4 => ?_)
        refine x_iload C d_M_is_49 4 rfl ?_
        refine x_icmp_ne C d_M_is_51 hf (fun hf => ?_) (fun hf => ?_)
        · refine x_iload_n C d_M_is_54 1 rfl ?_
          refine x_iconst C d_M_is_55 4 ?_
          refine x_jn (fun J5 => J5  = some rs → WX shM w x S 74 [] []) hf (fun hf => ?_) (fun J5 hJ5 hf => ?_)
          · refine x_iconst C d_M_is_74 1 ?_
            refine x_goto C d_M_is_75 ?_
            exact x_retR hR d_M_is_79 hf (Or.inr rfl)
          refine x_icmp_lt C d_M_is_56 hf (fun hf => ?_) (fun hf => ?_)
          · refine x_sub [] rfl ?_
            exact hJ5  hf
          refine x_aload_n C d_M_is_59 0 rfl ?_
          refine x_aload_n C d_M_is_60 0 rfl ?_
          refine x_get C d_M_is_61 f_M_from wd983 rfl rfl ?_
          refine x_iconst C d_M_is_64 3 ?_
          refine x_iadd C d_M_is_65 ?_
          refine x_cvr C d_M_is_66 wd1099 cm_M_look rfl rfl [.int ((S.1 0 17) + 3)] rfl rfl (by decide) (Nat.le_of_ble_eq_true rfl) hf (fun _ h => m_M_look h) (fun v6 hf hb_v6 => ?_)
          refine x_iload C d_M_is_69 5 rfl ?_
          refine x_icmp_ne C d_M_is_71 hf (fun hf => ?_) (fun hf => ?_)
          · refine x_sub [] rfl ?_
            exact hJ5  hf
          refine x_sub [] rfl ?_
          exact hJ1  hf
        refine x_sub [] rfl ?_
        exact hJ1  hf
      refine x_sub [] rfl ?_
      exact hJ1  hf
    refine x_sub [] rfl ?_
    exact hJ1  hf
  refine x_sub [] rfl ?_
  exact hJ1  hf
set_option maxRecDepth 4000 in
theorem m_M_nameNow {w : Ww} {l0 : Launch} {F : Nat} {S : St} {rs : Int32}  (hf : M_nameNow F S = some rs) : MI shM w l0 y_M_nameNow b_M_nameNow 1 .int 2 [.ref (w.1 0)] S rs S bzT := by
  refine MI.of (by decide) (Nat.le_of_ble_eq_true rfl) rfl (fun _ _ => rfl) (fun x hnL C hR => ?_)
  rw [M_nameNow] at hf
  refine x_aload_n C d_M_nameNow_0 0 rfl ?_
  refine x_iconst C d_M_nameNow_1 5 ?_
  refine x_bipush C d_M_nameNow_2 119 ?_
  refine x_bipush C d_M_nameNow_4 105 ?_
  refine x_bipush C d_M_nameNow_6 114 ?_
  refine x_bipush C d_M_nameNow_8 101 ?_
  refine x_cvr C d_M_nameNow_10 wd1109 cm_M_is rfl rfl [.int 5, .int 119, .int 105, .int 114, .int 101] rfl rfl (by decide) (Nat.le_of_ble_eq_true rfl) hf (fun _ h => m_M_is h) (fun v1 hf hb_v1 => ?_)
  refine x_jn (fun J2 => J2  = some rs → WX shM w x S 33 [(0, .ref (w.1 0))] []) hf (fun hf => ?_) (fun J2 hJ2 hf => ?_)
  · refine x_aload_n C d_M_nameNow_33 0 rfl ?_
    refine x_iconst C d_M_nameNow_34 3 ?_
    refine x_bipush C d_M_nameNow_35 111 ?_
    refine x_bipush C d_M_nameNow_37 119 ?_
    refine x_bipush C d_M_nameNow_39 110 ?_
    refine x_iconst C d_M_nameNow_41 0 ?_
    refine x_cvr C d_M_nameNow_42 wd1109 cm_M_is rfl rfl [.int 3, .int 111, .int 119, .int 110, .int 0] rfl rfl (by decide) (Nat.le_of_ble_eq_true rfl) hf (fun _ h => m_M_is h) (fun v3 hf hb_v3 => ?_)
    refine x_if_eq C d_M_nameNow_45 hf (fun hf => ?_) (fun hf => ?_)
    · refine x_aload_n C d_M_nameNow_50 0 rfl ?_
      refine x_iconst C d_M_nameNow_51 4 ?_
      refine x_bipush C d_M_nameNow_52 115 ?_
      refine x_bipush C d_M_nameNow_54 105 ?_
      refine x_bipush C d_M_nameNow_56 100 ?_
      refine x_bipush C d_M_nameNow_58 101 ?_
      refine x_cvr C d_M_nameNow_60 wd1109 cm_M_is rfl rfl [.int 4, .int 115, .int 105, .int 100, .int 101] rfl rfl (by decide) (Nat.le_of_ble_eq_true rfl) hf (fun _ h => m_M_is h) (fun v4 hf hb_v4 => ?_)
      refine x_if_eq C d_M_nameNow_63 hf (fun hf => ?_) (fun hf => ?_)
      · refine x_aload_n C d_M_nameNow_68 0 rfl ?_
        refine x_bipush C d_M_nameNow_69 6 ?_
        refine x_bipush C d_M_nameNow_71 115 ?_
        refine x_bipush C d_M_nameNow_73 104 ?_
        refine x_bipush C d_M_nameNow_75 105 ?_
        refine x_bipush C d_M_nameNow_77 101 ?_
        refine x_cvr C d_M_nameNow_79 wd1109 cm_M_is rfl rfl [.int 6, .int 115, .int 104, .int 105, .int 101] rfl rfl (by decide) (Nat.le_of_ble_eq_true rfl) hf (fun _ h => m_M_is h) (fun v5 hf hb_v5 => ?_)
        refine x_jn (fun J6 => J6  = some rs → WX shM w x S 117 [(0, .ref (w.1 0))] []) hf (fun hf => ?_) (fun J6 hJ6 hf => ?_)
        · refine x_aload_n C d_M_nameNow_117 0 rfl ?_
          refine x_iconst C d_M_nameNow_118 4 ?_
          refine x_bipush C d_M_nameNow_119 115 ?_
          refine x_bipush C d_M_nameNow_121 101 ?_
          refine x_bipush C d_M_nameNow_123 110 ?_
          refine x_bipush C d_M_nameNow_125 100 ?_
          refine x_cvr C d_M_nameNow_127 wd1109 cm_M_is rfl rfl [.int 4, .int 115, .int 101, .int 110, .int 100] rfl rfl (by decide) (Nat.le_of_ble_eq_true rfl) hf (fun _ h => m_M_is h) (fun v7 hf hb_v7 => ?_)
          refine x_if_eq C d_M_nameNow_130 hf (fun hf => ?_) (fun hf => ?_)
          · refine x_aload_n C d_M_nameNow_137 0 rfl ?_
            refine x_iconst C d_M_nameNow_138 4 ?_
            refine x_bipush C d_M_nameNow_139 115 ?_
            refine x_bipush C d_M_nameNow_141 116 ?_
            refine x_bipush C d_M_nameNow_143 101 ?_
            refine x_bipush C d_M_nameNow_145 112 ?_
            refine x_cvr C d_M_nameNow_147 wd1109 cm_M_is rfl rfl [.int 4, .int 115, .int 116, .int 101, .int 112] rfl rfl (by decide) (Nat.le_of_ble_eq_true rfl) hf (fun _ h => m_M_is h) (fun v8 hf hb_v8 => ?_)
            refine x_if_eq C d_M_nameNow_150 hf (fun hf => ?_) (fun hf => ?_)
            · refine x_bipush C d_M_nameNow_157 (-4) ?_
              exact x_retR hR d_M_nameNow_159 hf trivial
            refine x_iconst C d_M_nameNow_153 5 ?_
            refine x_goto C d_M_nameNow_154 ?_
            exact x_retR hR d_M_nameNow_159 hf trivial
          refine x_iconst C d_M_nameNow_133 4 ?_
          refine x_goto C d_M_nameNow_134 ?_
          exact x_retR hR d_M_nameNow_159 hf trivial
        refine x_if_eq C d_M_nameNow_82 hf (fun hf => ?_) (fun hf => ?_)
        · exact hJ6  hf
        refine x_aload_n C d_M_nameNow_85 0 rfl ?_
        refine x_aload_n C d_M_nameNow_86 0 rfl ?_
        refine x_get C d_M_nameNow_87 f_M_from wd983 rfl rfl ?_
        refine x_iconst C d_M_nameNow_90 4 ?_
        refine x_iadd C d_M_nameNow_91 ?_
        refine x_cvr C d_M_nameNow_92 wd1099 cm_M_look rfl rfl [.int ((S.1 0 17) + 4)] rfl rfl (by decide) (Nat.le_of_ble_eq_true rfl) hf (fun _ h => m_M_look h) (fun v9 hf hb_v9 => ?_)
        refine x_bipush C d_M_nameNow_95 108 ?_
        refine x_icmp_ne C d_M_nameNow_97 hf (fun hf => ?_) (fun hf => ?_)
        · refine x_aload_n C d_M_nameNow_100 0 rfl ?_
          refine x_aload_n C d_M_nameNow_101 0 rfl ?_
          refine x_get C d_M_nameNow_102 f_M_from wd983 rfl rfl ?_
          refine x_iconst C d_M_nameNow_105 5 ?_
          refine x_iadd C d_M_nameNow_106 ?_
          refine x_cvr C d_M_nameNow_107 wd1099 cm_M_look rfl rfl [.int ((S.1 0 17) + 5)] rfl rfl (by decide) (Nat.le_of_ble_eq_true rfl) hf (fun _ h => m_M_look h) (fun v10 hf hb_v10 => ?_)
          refine x_bipush C d_M_nameNow_110 100 ?_
          refine x_icmp_ne C d_M_nameNow_112 hf (fun hf => ?_) (fun hf => ?_)
          · refine x_iconst C d_M_nameNow_115 3 ?_
            exact x_retR hR d_M_nameNow_116 hf trivial
          exact hJ6  hf
        exact hJ6  hf
      refine x_iconst C d_M_nameNow_66 2 ?_
      exact x_retR hR d_M_nameNow_67 hf trivial
    refine x_iconst C d_M_nameNow_48 1 ?_
    exact x_retR hR d_M_nameNow_49 hf trivial
  refine x_if_eq C d_M_nameNow_13 hf (fun hf => ?_) (fun hf => ?_)
  · exact hJ2  hf
  refine x_aload_n C d_M_nameNow_16 0 rfl ?_
  refine x_aload_n C d_M_nameNow_17 0 rfl ?_
  refine x_get C d_M_nameNow_18 f_M_from wd983 rfl rfl ?_
  refine x_iconst C d_M_nameNow_21 4 ?_
  refine x_iadd C d_M_nameNow_22 ?_
  refine x_cvr C d_M_nameNow_23 wd1099 cm_M_look rfl rfl [.int ((S.1 0 17) + 4)] rfl rfl (by decide) (Nat.le_of_ble_eq_true rfl) hf (fun _ h => m_M_look h) (fun v11 hf hb_v11 => ?_)
  refine x_bipush C d_M_nameNow_26 115 ?_
  refine x_icmp_ne C d_M_nameNow_28 hf (fun hf => ?_) (fun hf => ?_)
  · refine x_iconst C d_M_nameNow_31 0 ?_
    exact x_retR hR d_M_nameNow_32 hf trivial
  exact hJ2  hf
set_option maxRecDepth 4000 in
theorem w_M_next_L170 {w : Ww} {l0 : Launch} {x : Cx} {F : Nat}  {rs : St} {k15 : St → Option St} (hnL : x.2.2.2.2.2.2.2.2.2.2.2.2 = 2) (C : XC shM w "NeighbourWiresModel" b_M_next l0 3 x) (hR : RV shM w b_M_next rs x)  (hk15 : ∀ (S16 : St), k15 S16 = some rs → WX shM w x S16 247 [(0, .ref (w.1 0))] []) : ∀ (n : Nat) (S20 : St), M_next_L170 F k15 n S20 = some rs → WX shM w x S20 170 [(0, .ref (w.1 0))] [] := by
  intro n
  induction n with
  | zero => intro S20 hf; cases hf
  | succ n ih =>
    intro S20 hf
    rw [M_next_L170] at hf
    refine x_aload_n C d_M_next_170 0 rfl ?_
    refine x_aload_n C d_M_next_171 0 rfl ?_
    refine x_get C d_M_next_172 f_M_pos wd982 rfl rfl ?_
    refine x_cvr C d_M_next_175 wd1099 cm_M_look rfl rfl [.int (S20.1 0 16)] rfl rfl (by decide) (Nat.le_of_ble_eq_true rfl) hf (fun _ h => m_M_look h) (fun v21 hf hb_v21 => ?_)
    refine x_i2l C d_M_next_178 ?_
    refine x_ldc2 C d_M_next_179 wd1117 ?_
    refine x_ldc2 C d_M_next_182 wd1118 ?_
    refine x_csr C d_M_next_185 wd1088 cm_M_in [.long (Int32.toInt64 v21), .long 48, .long 57] rfl rfl (by decide) (Nat.le_of_ble_eq_true rfl) hf (fun _ h => m_M_in h) (fun v22 hf hb_v22 => ?_)
    refine x_if_eq C d_M_next_188 hf (fun hf => ?_) (fun hf => ?_)
    · exact hk15 S20 hf
    refine x_aload_n C d_M_next_191 0 rfl ?_
    refine x_aload_n C d_M_next_192 0 rfl ?_
    refine x_get C d_M_next_193 f_M_pos wd982 rfl rfl ?_
    refine x_aload_n C d_M_next_196 0 rfl ?_
    refine x_get C d_M_next_197 f_M_from wd983 rfl rfl ?_
    refine x_isub C d_M_next_200 ?_
    refine x_iconst C d_M_next_201 3 ?_
    refine x_jn (fun J24 => ∀ (v23 : Int32), J24 v23 = some rs → WX shM w x S20 231 [(0, .ref (w.1 0))] [.int v23, .ref (w.1 0)]) hf (fun v23 hf => ?_) (fun J24 hJ24 hf => ?_)
    · refine x_put C d_M_next_231 f_M_value wd985 rfl rfl hf (fun S25 hf => ?_)
      refine x_aload_n C d_M_next_234 0 rfl ?_
      refine x_dup C d_M_next_235 rfl ?_
      refine x_get C d_M_next_236 f_M_pos wd982 rfl rfl ?_
      refine x_iconst C d_M_next_239 1 ?_
      refine x_iadd C d_M_next_240 ?_
      refine x_put C d_M_next_241 f_M_pos wd982 rfl rfl hf (fun S26 hf => ?_)
      refine x_goto C d_M_next_244 ?_
      exact ih S26 hf
    refine x_icmp_ge C d_M_next_202 hf (fun hf => ?_) (fun hf => ?_)
    · refine x_bipush C d_M_next_205 10 ?_
      refine x_aload_n C d_M_next_207 0 rfl ?_
      refine x_get C d_M_next_208 f_M_value wd985 rfl rfl ?_
      refine x_imul C d_M_next_211 ?_
      refine x_aload_n C d_M_next_212 0 rfl ?_
      refine x_aload_n C d_M_next_213 0 rfl ?_
      refine x_get C d_M_next_214 f_M_pos wd982 rfl rfl ?_
      refine x_cvr C d_M_next_217 wd1099 cm_M_look rfl rfl [.int (S20.1 0 16)] rfl rfl (by decide) (Nat.le_of_ble_eq_true rfl) hf (fun _ h => m_M_look h) (fun v27 hf hb_v27 => ?_)
      refine x_iadd C d_M_next_220 ?_
      refine x_bipush C d_M_next_221 48 ?_
      refine x_isub C d_M_next_223 ?_
      refine x_goto C d_M_next_224 ?_
      exact hJ24 (((10 * (S20.1 0 19)) + v27) - 48) hf
    refine x_aload_n C d_M_next_227 0 rfl ?_
    refine x_get C d_M_next_228 f_M_value wd985 rfl rfl ?_
    exact hJ24 (S20.1 0 19) hf
set_option maxRecDepth 4000 in
theorem w_M_next_L82 {w : Ww} {l0 : Launch} {x : Cx} {F : Nat}  {rs : St} {k29 : St → Option St} (hnL : x.2.2.2.2.2.2.2.2.2.2.2.2 = 2) (C : XC shM w "NeighbourWiresModel" b_M_next l0 3 x) (hR : RV shM w b_M_next rs x)  (hk29 : ∀ (S30 : St), k29 S30 = some rs → WX shM w x S30 116 [(0, .ref (w.1 0))] []) : ∀ (n : Nat) (S36 : St), M_next_L82 F k29 n S36 = some rs → WX shM w x S36 82 [(0, .ref (w.1 0))] [] := by
  intro n
  induction n with
  | zero => intro S36 hf; cases hf
  | succ n ih =>
    intro S36 hf
    rw [M_next_L82] at hf
    refine x_aload_n C d_M_next_82 0 rfl ?_
    refine x_aload_n C d_M_next_83 0 rfl ?_
    refine x_get C d_M_next_84 f_M_pos wd982 rfl rfl ?_
    refine x_cvr C d_M_next_87 wd1099 cm_M_look rfl rfl [.int (S36.1 0 16)] rfl rfl (by decide) (Nat.le_of_ble_eq_true rfl) hf (fun _ h => m_M_look h) (fun v37 hf hb_v37 => ?_)
    refine x_i2l C d_M_next_90 ?_
    refine x_ldc2 C d_M_next_91 wd1103 ?_
    refine x_ldc2 C d_M_next_94 wd1104 ?_
    refine x_csr C d_M_next_97 wd1088 cm_M_in [.long (Int32.toInt64 v37), .long 97, .long 122] rfl rfl (by decide) (Nat.le_of_ble_eq_true rfl) hf (fun _ h => m_M_in h) (fun v38 hf hb_v38 => ?_)
    refine x_if_eq C d_M_next_100 hf (fun hf => ?_) (fun hf => ?_)
    · exact hk29 S36 hf
    refine x_aload_n C d_M_next_103 0 rfl ?_
    refine x_dup C d_M_next_104 rfl ?_
    refine x_get C d_M_next_105 f_M_pos wd982 rfl rfl ?_
    refine x_iconst C d_M_next_108 1 ?_
    refine x_iadd C d_M_next_109 ?_
    refine x_put C d_M_next_110 f_M_pos wd982 rfl rfl hf (fun S39 hf => ?_)
    refine x_goto C d_M_next_113 ?_
    exact ih S39 hf
set_option maxRecDepth 4000 in
theorem w_M_next_L8 {w : Ww} {l0 : Launch} {x : Cx} {F : Nat}  {rs : St} {k1 : St → Option St} (hnL : x.2.2.2.2.2.2.2.2.2.2.2.2 = 2) (C : XC shM w "NeighbourWiresModel" b_M_next l0 3 x) (hR : RV shM w b_M_next rs x)  (hk1 : ∀ (S2 : St), k1 S2 = some rs → WX shM w x S2 34 [(0, .ref (w.1 0))] []) : ∀ (n : Nat) (S40 : St), M_next_L8 F k1 n S40 = some rs → WX shM w x S40 8 [(0, .ref (w.1 0))] [] := by
  intro n
  induction n with
  | zero => intro S40 hf; cases hf
  | succ n ih =>
    intro S40 hf
    rw [M_next_L8] at hf
    refine x_aload_n C d_M_next_8 0 rfl ?_
    refine x_aload_n C d_M_next_9 0 rfl ?_
    refine x_get C d_M_next_10 f_M_pos wd982 rfl rfl ?_
    refine x_cvr C d_M_next_13 wd1099 cm_M_look rfl rfl [.int (S40.1 0 16)] rfl rfl (by decide) (Nat.le_of_ble_eq_true rfl) hf (fun _ h => m_M_look h) (fun v41 hf hb_v41 => ?_)
    refine x_bipush C d_M_next_16 32 ?_
    refine x_icmp_ne C d_M_next_18 hf (fun hf => ?_) (fun hf => ?_)
    · refine x_aload_n C d_M_next_21 0 rfl ?_
      refine x_dup C d_M_next_22 rfl ?_
      refine x_get C d_M_next_23 f_M_pos wd982 rfl rfl ?_
      refine x_iconst C d_M_next_26 1 ?_
      refine x_iadd C d_M_next_27 ?_
      refine x_put C d_M_next_28 f_M_pos wd982 rfl rfl hf (fun S42 hf => ?_)
      refine x_goto C d_M_next_31 ?_
      exact ih S42 hf
    exact hk1 S40 hf
set_option maxRecDepth 4000 in
theorem m_M_next {w : Ww} {l0 : Launch} {F : Nat} {S : St} {rs : St}  (hf : M_next F S = some rs) : MV shM w l0 y_M_next b_M_next 2 3 [.ref (w.1 0)] S rs := by
  refine MV.of (by decide) (Nat.le_of_ble_eq_true rfl) rfl (fun x hnL C hR => ?_)
  rw [M_next] at hf
  refine x_aload_n C d_M_next_0 0 rfl ?_
  refine x_get C d_M_next_1 f_M_fault wd986 rfl rfl ?_
  refine x_if_le C d_M_next_4 hf (fun hf => ?_) (fun hf => ?_)
  · exact hR _ _ _ d_M_next_7.1 hf
  refine w_M_next_L8 hnL C hR (fun S2 hf => ?_) F S hf
  refine x_aload_n C d_M_next_34 0 rfl ?_
  refine x_aload_n C d_M_next_35 0 rfl ?_
  refine x_get C d_M_next_36 f_M_pos wd982 rfl rfl ?_
  refine x_put C d_M_next_39 f_M_from wd983 rfl rfl hf (fun S3 hf => ?_)
  refine x_aload_n C d_M_next_42 0 rfl ?_
  refine x_aload_n C d_M_next_43 0 rfl ?_
  refine x_get C d_M_next_44 f_M_pos wd982 rfl rfl ?_
  refine x_cvr C d_M_next_47 wd1099 cm_M_look rfl rfl [.int (S3.1 0 16)] rfl rfl (by decide) (Nat.le_of_ble_eq_true rfl) hf (fun _ h => m_M_look h) (fun v4 hf hb_v4 => ?_)
  refine x_istore_n C d_M_next_50 [(1, .int v4), (0, .ref (w.1 0))] (by rw [hnL]; decide) rfl ?_
  refine x_iload_n C d_M_next_51 0 rfl ?_
  refine x_if_ge C d_M_next_52 hf (fun hf => ?_) (fun hf => ?_)
  · refine x_aload_n C d_M_next_55 1 rfl ?_
    refine x_iconst C d_M_next_56 0 ?_
    refine x_put C d_M_next_57 f_M_sort wd984 rfl rfl hf (fun S5 hf => ?_)
    refine x_goto C d_M_next_60 ?_
    exact hR _ _ _ d_M_next_304.1 hf
  refine x_iload_n C d_M_next_63 0 rfl ?_
  refine x_i2l C d_M_next_64 ?_
  refine x_ldc2 C d_M_next_65 wd1103 ?_
  refine x_ldc2 C d_M_next_68 wd1104 ?_
  refine x_csr C d_M_next_71 wd1088 cm_M_in [.long (Int32.toInt64 v4), .long 97, .long 122] rfl rfl (by decide) (Nat.le_of_ble_eq_true rfl) hf (fun _ h => m_M_in h) (fun v6 hf hb_v6 => ?_)
  refine x_if_eq C d_M_next_74 hf (fun hf => ?_) (fun hf => ?_)
  · refine x_iload_n C d_M_next_146 0 rfl ?_
    refine x_i2l C d_M_next_147 ?_
    refine x_ldc2 C d_M_next_148 wd1117 ?_
    refine x_ldc2 C d_M_next_151 wd1118 ?_
    refine x_csr C d_M_next_154 wd1088 cm_M_in [.long (Int32.toInt64 v4), .long 48, .long 57] rfl rfl (by decide) (Nat.le_of_ble_eq_true rfl) hf (fun _ h => m_M_in h) (fun v7 hf hb_v7 => ?_)
    refine x_if_eq C d_M_next_157 hf (fun hf => ?_) (fun hf => ?_)
    · refine x_aload_n C d_M_next_273 1 rfl ?_
      refine x_iconst C d_M_next_274 3 ?_
      refine x_put C d_M_next_275 f_M_sort wd984 rfl rfl hf (fun S8 hf => ?_)
      refine x_aload_n C d_M_next_278 1 rfl ?_
      refine x_iload_n C d_M_next_279 0 rfl ?_
      refine x_bipush C d_M_next_280 59 ?_
      refine x_jn (fun J10 => ∀ (v9 : Int32), J10 v9 = some rs → WX shM w x S8 290 [(0, .ref (w.1 0))] [.int v9, .ref (w.1 0)]) hf (fun v9 hf => ?_) (fun J10 hJ10 hf => ?_)
      · refine x_iconst C d_M_next_290 1 ?_
        refine x_cvv C d_M_next_291 wd1113 cm_M_wants rfl rfl [.int v9, .int 1] rfl rfl (by decide) (Nat.le_of_ble_eq_true rfl) hf (fun _ h => m_M_wants h) (fun S11 hf => ?_)
        refine x_aload_n C d_M_next_294 0 rfl ?_
        refine x_dup C d_M_next_295 rfl ?_
        refine x_get C d_M_next_296 f_M_pos wd982 rfl rfl ?_
        refine x_iconst C d_M_next_299 1 ?_
        refine x_iadd C d_M_next_300 ?_
        refine x_put C d_M_next_301 f_M_pos wd982 rfl rfl hf (fun S12 hf => ?_)
        exact hR _ _ _ d_M_next_304.1 hf
      refine x_icmp_ne C d_M_next_282 hf (fun hf => ?_) (fun hf => ?_)
      · refine x_iconst C d_M_next_285 1 ?_
        refine x_goto C d_M_next_286 ?_
        refine x_sub [1] rfl ?_
        exact hJ10 1 hf
      refine x_iconst C d_M_next_289 0 ?_
      refine x_sub [1] rfl ?_
      exact hJ10 0 hf
    refine x_aload_n C d_M_next_160 1 rfl ?_
    refine x_iconst C d_M_next_161 2 ?_
    refine x_put C d_M_next_162 f_M_sort wd984 rfl rfl hf (fun S13 hf => ?_)
    refine x_aload_n C d_M_next_165 1 rfl ?_
    refine x_iconst C d_M_next_166 0 ?_
    refine x_put C d_M_next_167 f_M_value wd985 rfl rfl hf (fun S14 hf => ?_)
    refine x_sub [1] rfl ?_
    refine w_M_next_L170 hnL C hR (fun S16 hf => ?_) F S14 hf
    refine x_aload_n C d_M_next_247 0 rfl ?_
    refine x_aload_n C d_M_next_248 0 rfl ?_
    refine x_get C d_M_next_249 f_M_pos wd982 rfl rfl ?_
    refine x_aload_n C d_M_next_252 0 rfl ?_
    refine x_get C d_M_next_253 f_M_from wd983 rfl rfl ?_
    refine x_isub C d_M_next_256 ?_
    refine x_iconst C d_M_next_257 3 ?_
    refine x_jn (fun J18 => ∀ (v17 : Int32), J18 v17 = some rs → WX shM w x S16 266 [] [.int v17, .ref (w.1 0)]) hf (fun v17 hf => ?_) (fun J18 hJ18 hf => ?_)
    · refine x_iconst C d_M_next_266 1 ?_
      refine x_cvv C d_M_next_267 wd1113 cm_M_wants rfl rfl [.int v17, .int 1] rfl rfl (by decide) (Nat.le_of_ble_eq_true rfl) hf (fun _ h => m_M_wants h) (fun S19 hf => ?_)
      refine x_goto C d_M_next_270 ?_
      exact hR _ _ _ d_M_next_304.1 hf
    refine x_icmp_gt C d_M_next_258 hf (fun hf => ?_) (fun hf => ?_)
    · refine x_iconst C d_M_next_265 0 ?_
      refine x_sub [] rfl ?_
      exact hJ18 0 hf
    refine x_iconst C d_M_next_261 1 ?_
    refine x_goto C d_M_next_262 ?_
    refine x_sub [] rfl ?_
    exact hJ18 1 hf
  refine x_aload_n C d_M_next_77 1 rfl ?_
  refine x_iconst C d_M_next_78 1 ?_
  refine x_put C d_M_next_79 f_M_sort wd984 rfl rfl hf (fun S28 hf => ?_)
  refine x_sub [1] rfl ?_
  refine w_M_next_L82 hnL C hR (fun S30 hf => ?_) F S28 hf
  refine x_aload_n C d_M_next_116 0 rfl ?_
  refine x_aload_n C d_M_next_117 0 rfl ?_
  refine x_cvr C d_M_next_118 wd1105 cm_M_nameNow rfl rfl [] rfl rfl (by decide) (Nat.le_of_ble_eq_true rfl) hf (fun _ h => m_M_nameNow h) (fun v31 hf hb_v31 => ?_)
  refine x_put C d_M_next_121 f_M_value wd985 rfl rfl hf (fun S32 hf => ?_)
  refine x_aload_n C d_M_next_124 0 rfl ?_
  refine x_aload_n C d_M_next_125 0 rfl ?_
  refine x_get C d_M_next_126 f_M_value wd985 rfl rfl ?_
  refine x_bipush C d_M_next_129 (-4) ?_
  refine x_jn (fun J34 => ∀ (v33 : Int32), J34 v33 = some rs → WX shM w x S32 139 [] [.int v33, .ref (w.1 0)]) hf (fun v33 hf => ?_) (fun J34 hJ34 hf => ?_)
  · refine x_iconst C d_M_next_139 1 ?_
    refine x_cvv C d_M_next_140 wd1113 cm_M_wants rfl rfl [.int v33, .int 1] rfl rfl (by decide) (Nat.le_of_ble_eq_true rfl) hf (fun _ h => m_M_wants h) (fun S35 hf => ?_)
    refine x_goto C d_M_next_143 ?_
    exact hR _ _ _ d_M_next_304.1 hf
  refine x_icmp_eq C d_M_next_131 hf (fun hf => ?_) (fun hf => ?_)
  · refine x_iconst C d_M_next_138 0 ?_
    refine x_sub [] rfl ?_
    exact hJ34 0 hf
  refine x_iconst C d_M_next_134 1 ?_
  refine x_goto C d_M_next_135 ?_
  refine x_sub [] rfl ?_
  exact hJ34 1 hf
set_option maxRecDepth 4000 in
theorem m_M_isNumber {w : Ww} {l0 : Launch} {F : Nat} {S : St} {p1 : Int32} {p2 : Int32} {rs : St}  (hf : M_isNumber F S p1 p2 = some rs) : MV shM w l0 y_M_isNumber b_M_isNumber 3 1 [.ref (w.1 0), .int p1, .int p2] S rs := by
  refine MV.of (by decide) (Nat.le_of_ble_eq_true rfl) rfl (fun x hnL C hR => ?_)
  rw [M_isNumber] at hf
  refine x_aload_n C d_M_isNumber_0 0 rfl ?_
  refine x_get C d_M_isNumber_1 f_M_fault wd986 rfl rfl ?_
  refine x_jn (fun J2 => ∀ (S1 : St), J2 S1 = some rs → WX shM w x S1 25 [(0, .ref (w.1 0)), (1, .int p1), (2, .int p2)] []) hf (fun S1 hf => ?_) (fun J2 hJ2 hf => ?_)
  · refine x_aload_n C d_M_isNumber_25 0 rfl ?_
    refine x_get C d_M_isNumber_26 f_M_fault wd986 rfl rfl ?_
    refine x_if_ne C d_M_isNumber_29 hf (fun hf => ?_) (fun hf => ?_)
    · refine x_aload_n C d_M_isNumber_32 0 rfl ?_
      refine x_aload_n C d_M_isNumber_33 0 rfl ?_
      refine x_get C d_M_isNumber_34 f_M_value wd985 rfl rfl ?_
      refine x_i2l C d_M_isNumber_37 ?_
      refine x_iload_n C d_M_isNumber_38 1 rfl ?_
      refine x_i2l C d_M_isNumber_39 ?_
      refine x_iload_n C d_M_isNumber_40 2 rfl ?_
      refine x_i2l C d_M_isNumber_41 ?_
      refine x_csr C d_M_isNumber_42 wd1088 cm_M_in [.long (Int32.toInt64 (S1.1 0 19)), .long (Int32.toInt64 p1), .long (Int32.toInt64 p2)] rfl rfl (by decide) (Nat.le_of_ble_eq_true rfl) hf (fun _ h => m_M_in h) (fun v3 hf hb_v3 => ?_)
      refine x_iconst C d_M_isNumber_45 3 ?_
      refine x_cvv C d_M_isNumber_46 wd1113 cm_M_wants rfl rfl [.int v3, .int 3] rfl rfl (by decide) (Nat.le_of_ble_eq_true rfl) hf (fun _ h => m_M_wants h) (fun S4 hf => ?_)
      exact hR _ _ _ d_M_isNumber_49.1 hf
    exact hR _ _ _ d_M_isNumber_49.1 hf
  refine x_if_ne C d_M_isNumber_4 hf (fun hf => ?_) (fun hf => ?_)
  · refine x_aload_n C d_M_isNumber_7 0 rfl ?_
    refine x_aload_n C d_M_isNumber_8 0 rfl ?_
    refine x_get C d_M_isNumber_9 f_M_sort wd984 rfl rfl ?_
    refine x_iconst C d_M_isNumber_12 2 ?_
    refine x_jn (fun J6 => ∀ (v5 : Int32), J6 v5 = some rs → WX shM w x S 21 [(0, .ref (w.1 0)), (1, .int p1), (2, .int p2)] [.int v5, .ref (w.1 0)]) hf (fun v5 hf => ?_) (fun J6 hJ6 hf => ?_)
    · refine x_iconst C d_M_isNumber_21 2 ?_
      refine x_cvv C d_M_isNumber_22 wd1113 cm_M_wants rfl rfl [.int v5, .int 2] rfl rfl (by decide) (Nat.le_of_ble_eq_true rfl) hf (fun _ h => m_M_wants h) (fun S7 hf => ?_)
      exact hJ2 S7 hf
    refine x_icmp_ne C d_M_isNumber_13 hf (fun hf => ?_) (fun hf => ?_)
    · refine x_iconst C d_M_isNumber_16 1 ?_
      refine x_goto C d_M_isNumber_17 ?_
      exact hJ6 1 hf
    refine x_iconst C d_M_isNumber_20 0 ?_
    exact hJ6 0 hf
  exact hJ2 S hf
set_option maxRecDepth 4000 in
theorem m_M_readNumber {w : Ww} {l0 : Launch} {F : Nat} {S : St} {p1 : Int32} {p2 : Int32} {r : Int32} {S9 : St}  (hf : M_readNumber F S p1 p2 = some (r, S9)) : MI shM w l0 y_M_readNumber b_M_readNumber 4 .int 4 [.ref (w.1 0), .int p1, .int p2] S r S9 bzT := by
  refine MI.of (by decide) (Nat.le_of_ble_eq_true rfl) rfl (fun _ _ => rfl) (fun x hnL C hR => ?_)
  rw [M_readNumber] at hf
  refine x_aload_n C d_M_readNumber_0 0 rfl ?_
  refine x_iload_n C d_M_readNumber_1 1 rfl ?_
  refine x_iload_n C d_M_readNumber_2 2 rfl ?_
  refine x_cvv C d_M_readNumber_3 wd1127 cm_M_isNumber rfl rfl [.int p1, .int p2] rfl rfl (by decide) (Nat.le_of_ble_eq_true rfl) hf (fun _ h => m_M_isNumber h) (fun S1 hf => ?_)
  refine x_aload_n C d_M_readNumber_6 0 rfl ?_
  refine x_get C d_M_readNumber_7 f_M_value wd985 rfl rfl ?_
  refine x_bi hf (fun v2 hf => ?_)
  refine x_istore_n C d_M_readNumber_10 [(3, .int v2), (0, .ref (w.1 0)), (1, .int p1), (2, .int p2)] (by rw [hnL]; decide) rfl ?_
  refine x_aload_n C d_M_readNumber_11 1 rfl ?_
  refine x_cvv C d_M_readNumber_12 wd1095 cm_M_next rfl rfl [] rfl rfl (by decide) (Nat.le_of_ble_eq_true rfl) hf (fun _ h => m_M_next h) (fun S3 hf => ?_)
  refine x_iload_n C d_M_readNumber_15 0 rfl ?_
  exact hR _ _ _ _ d_M_readNumber_16.1 hf trivial
set_option maxRecDepth 4000 in
theorem w_M_readSend_L2 {w : Ww} {l0 : Launch} {x : Cx} {F : Nat}  {rs : St}  (hnL : x.2.2.2.2.2.2.2.2.2.2.2.2 = 2) (C : XC shM w "NeighbourWiresModel" b_M_readSend l0 4 x) (hR : RV shM w b_M_readSend rs x)   : ∀ (n : Nat) (S1 : St) (v2 : Int32), M_readSend_L2 F n S1 v2 = some rs → WX shM w x S1 2 [(0, .ref (w.1 0)), (1, .int v2)] [] := by
  intro n
  induction n with
  | zero => intro S1 v2 hf; cases hf
  | succ n ih =>
    intro S1 v2 hf
    rw [M_readSend_L2] at hf
    refine x_iload_n C d_M_readSend_2 1 rfl ?_
    refine x_if_eq C d_M_readSend_3 hf (fun hf => ?_) (fun hf => ?_)
    · exact hR _ _ _ d_M_readSend_103.1 hf
    refine x_aload_n C d_M_readSend_6 0 rfl ?_
    refine x_iconst C d_M_readSend_7 0 ?_
    refine x_iconst C d_M_readSend_8 1 ?_
    refine x_aload_n C d_M_readSend_9 0 rfl ?_
    refine x_get C d_M_readSend_10 f_M_dWires wd973 rfl rfl ?_
    refine x_ishl C d_M_readSend_13 ?_
    refine x_iconst C d_M_readSend_14 1 ?_
    refine x_isub C d_M_readSend_15 ?_
    refine x_cvv C d_M_readSend_16 wd1127 cm_M_isNumber rfl rfl [.int 0, .int ((jshl 1 (S1.1 0 7)) - 1)] rfl rfl (by decide) (Nat.le_of_ble_eq_true rfl) hf (fun _ h => m_M_isNumber h) (fun S3 hf => ?_)
    refine x_aload_n C d_M_readSend_19 0 rfl ?_
    refine x_get C d_M_readSend_20 f_M_fault wd986 rfl rfl ?_
    refine x_jn (fun J5 => ∀ (S4 : St), J5 S4 = some rs → WX shM w x S4 45 [(0, .ref (w.1 0))] []) hf (fun S4 hf => ?_) (fun J5 hJ5 hf => ?_)
    · refine x_aload_n C d_M_readSend_45 0 rfl ?_
      refine x_get C d_M_readSend_46 f_M_fault wd986 rfl rfl ?_
      refine x_jn (fun J7 => ∀ (S6 : St), J7 S6 = some rs → WX shM w x S6 75 [(0, .ref (w.1 0))] []) hf (fun S6 hf => ?_) (fun J7 hJ7 hf => ?_)
      · refine x_aload_n C d_M_readSend_75 0 rfl ?_
        refine x_cvv C d_M_readSend_76 wd1095 cm_M_next rfl rfl [] rfl rfl (by decide) (Nat.le_of_ble_eq_true rfl) hf (fun _ h => m_M_next h) (fun S8 hf => ?_)
        refine x_aload_n C d_M_readSend_79 0 rfl ?_
        refine x_get C d_M_readSend_80 f_M_fault wd986 rfl rfl ?_
        refine x_jn (fun J10 => ∀ (v9 : Int32), J10 v9 = some rs → WX shM w x S8 99 [(0, .ref (w.1 0))] [.int v9]) hf (fun v9 hf => ?_) (fun J10 hJ10 hf => ?_)
        · refine x_istore_n C d_M_readSend_99 [(1, .int v9), (0, .ref (w.1 0))] (by rw [hnL]; decide) rfl ?_
          refine x_goto C d_M_readSend_100 ?_
          refine x_sub [1, 0] rfl ?_
          exact ih S8 v9 hf
        refine x_jn (fun J11 => J11  = some rs → WX shM w x S8 98 [(0, .ref (w.1 0))] []) hf (fun hf => ?_) (fun J11 hJ11 hf => ?_)
        · refine x_iconst C d_M_readSend_98 0 ?_
          exact hJ10 0 hf
        refine x_if_ne C d_M_readSend_83 hf (fun hf => ?_) (fun hf => ?_)
        · refine x_aload_n C d_M_readSend_86 0 rfl ?_
          refine x_get C d_M_readSend_87 f_M_sort wd984 rfl rfl ?_
          refine x_iconst C d_M_readSend_90 2 ?_
          refine x_icmp_ne C d_M_readSend_91 hf (fun hf => ?_) (fun hf => ?_)
          · refine x_iconst C d_M_readSend_94 1 ?_
            refine x_goto C d_M_readSend_95 ?_
            exact hJ10 1 hf
          exact hJ11  hf
        exact hJ11  hf
      refine x_if_ne C d_M_readSend_49 hf (fun hf => ?_) (fun hf => ?_)
      · refine x_aload_n C d_M_readSend_52 0 rfl ?_
        refine x_getr C d_M_readSend_53 f_M_dWords wd978 rfl rfl ?_
        refine x_aload_n C d_M_readSend_56 0 rfl ?_
        refine x_get C d_M_readSend_57 f_M_dLong wd977 rfl rfl ?_
        refine x_aload_n C d_M_readSend_60 0 rfl ?_
        refine x_get C d_M_readSend_61 f_M_value wd985 rfl rfl ?_
        refine x_iast C d_M_readSend_64 rfl hf (fun S12 hf => ?_)
        refine x_aload_n C d_M_readSend_65 0 rfl ?_
        refine x_dup C d_M_readSend_66 rfl ?_
        refine x_get C d_M_readSend_67 f_M_dLong wd977 rfl rfl ?_
        refine x_iconst C d_M_readSend_70 1 ?_
        refine x_iadd C d_M_readSend_71 ?_
        refine x_put C d_M_readSend_72 f_M_dLong wd977 rfl rfl hf (fun S13 hf => ?_)
        exact hJ7 S13 hf
      exact hJ7 S4 hf
    refine x_if_ne C d_M_readSend_23 hf (fun hf => ?_) (fun hf => ?_)
    · refine x_aload_n C d_M_readSend_26 0 rfl ?_
      refine x_aload_n C d_M_readSend_27 0 rfl ?_
      refine x_get C d_M_readSend_28 f_M_dLong wd977 rfl rfl ?_
      refine x_bipush C d_M_readSend_31 40 ?_
      refine x_jn (fun J15 => ∀ (v14 : Int32), J15 v14 = some rs → WX shM w x S3 41 [(0, .ref (w.1 0))] [.int v14, .ref (w.1 0)]) hf (fun v14 hf => ?_) (fun J15 hJ15 hf => ?_)
      · refine x_iconst C d_M_readSend_41 5 ?_
        refine x_cvv C d_M_readSend_42 wd1113 cm_M_wants rfl rfl [.int v14, .int 5] rfl rfl (by decide) (Nat.le_of_ble_eq_true rfl) hf (fun _ h => m_M_wants h) (fun S16 hf => ?_)
        exact hJ5 S16 hf
      refine x_icmp_ge C d_M_readSend_33 hf (fun hf => ?_) (fun hf => ?_)
      · refine x_iconst C d_M_readSend_36 1 ?_
        refine x_goto C d_M_readSend_37 ?_
        refine x_sub [0] rfl ?_
        exact hJ15 1 hf
      refine x_iconst C d_M_readSend_40 0 ?_
      refine x_sub [0] rfl ?_
      exact hJ15 0 hf
    refine x_sub [0] rfl ?_
    exact hJ5 S3 hf
set_option maxRecDepth 4000 in
theorem m_M_readSend {w : Ww} {l0 : Launch} {F : Nat} {S : St} {rs : St}  (hf : M_readSend F S = some rs) : MV shM w l0 y_M_readSend b_M_readSend 2 4 [.ref (w.1 0)] S rs := by
  refine MV.of (by decide) (Nat.le_of_ble_eq_true rfl) rfl (fun x hnL C hR => ?_)
  rw [M_readSend] at hf
  refine x_iconst C d_M_readSend_0 1 ?_
  refine x_istore_n C d_M_readSend_1 [(1, .int 1), (0, .ref (w.1 0))] (by rw [hnL]; decide) rfl ?_
  refine x_sub [1, 0] rfl ?_
  exact w_M_readSend_L2 hnL C hR  F S 1 hf
set_option maxRecDepth 4000 in
theorem w_M_readStep_L70 {w : Ww} {l0 : Launch} {x : Cx} {F : Nat} {v1 : Int32} {v3 : Int32} {v6 : Int32} {rs : St}  (hnL : x.2.2.2.2.2.2.2.2.2.2.2.2 = 5) (C : XC shM w "NeighbourWiresModel" b_M_readStep l0 5 x) (hR : RV shM w b_M_readStep rs x)   : ∀ (n : Nat) (S10 : St) (v11 : Int32), M_readStep_L70 F v1 v3 v6 n S10 v11 = some rs → WX shM w x S10 70 [(0, .ref (w.1 0)), (1, .int v1), (2, .int v3), (3, .int v6), (4, .int v11)] [] := by
  intro n
  induction n with
  | zero => intro S10 v11 hf; cases hf
  | succ n ih =>
    intro S10 v11 hf
    rw [M_readStep_L70] at hf
    refine x_iload C d_M_readStep_70 4 rfl ?_
    refine x_iload_n C d_M_readStep_72 3 rfl ?_
    refine x_icmp_ge C d_M_readStep_73 hf (fun hf => ?_) (fun hf => ?_)
    · refine x_aload_n C d_M_readStep_76 0 rfl ?_
      refine x_get C d_M_readStep_77 f_M_fault wd986 rfl rfl ?_
      refine x_if_ne C d_M_readStep_80 hf (fun hf => ?_) (fun hf => ?_)
      · refine x_aload_n C d_M_readStep_83 0 rfl ?_
        refine x_getr C d_M_readStep_84 f_M_dWords wd978 rfl rfl ?_
        refine x_aload_n C d_M_readStep_87 0 rfl ?_
        refine x_get C d_M_readStep_88 f_M_dLong wd977 rfl rfl ?_
        refine x_iload_n C d_M_readStep_91 1 rfl ?_
        refine x_iload C d_M_readStep_92 4 rfl ?_
        refine x_iload_n C d_M_readStep_94 2 rfl ?_
        refine x_imul C d_M_readStep_95 ?_
        refine x_iadd C d_M_readStep_96 ?_
        refine x_iconst C d_M_readStep_97 1 ?_
        refine x_aload_n C d_M_readStep_98 0 rfl ?_
        refine x_get C d_M_readStep_99 f_M_dWires wd973 rfl rfl ?_
        refine x_ishl C d_M_readStep_102 ?_
        obtain ⟨q12, hf⟩ := nz_in hf
        refine x_irem C d_M_readStep_103 q12 ?_
        refine x_iast C d_M_readStep_104 rfl hf (fun S13 hf => ?_)
        refine x_aload_n C d_M_readStep_105 0 rfl ?_
        refine x_dup C d_M_readStep_106 rfl ?_
        refine x_get C d_M_readStep_107 f_M_dLong wd977 rfl rfl ?_
        refine x_iconst C d_M_readStep_110 1 ?_
        refine x_iadd C d_M_readStep_111 ?_
        refine x_put C d_M_readStep_112 f_M_dLong wd977 rfl rfl hf (fun S14 hf => ?_)
        refine x_iinc C 1 d_M_readStep_115 4 rfl (by rw [hnL]; decide) hf (fun v15 => [(4, .int v15), (0, .ref (w.1 0)), (1, .int v1), (2, .int v3), (3, .int v6)]) (fun _ => rfl) (fun v15 hf => ?_)
        refine x_goto C d_M_readStep_118 ?_
        refine x_sub [1, 2, 3, 4, 0] rfl ?_
        exact ih S14 v15 hf
      exact hR _ _ _ d_M_readStep_121.1 hf
    exact hR _ _ _ d_M_readStep_121.1 hf
set_option maxRecDepth 4000 in
theorem m_M_readStep {w : Ww} {l0 : Launch} {F : Nat} {S : St} {rs : St}  (hf : M_readStep F S = some rs) : MV shM w l0 y_M_readStep b_M_readStep 5 5 [.ref (w.1 0)] S rs := by
  refine MV.of (by decide) (Nat.le_of_ble_eq_true rfl) rfl (fun x hnL C hR => ?_)
  rw [M_readStep] at hf
  refine x_aload_n C d_M_readStep_0 0 rfl ?_
  refine x_iconst C d_M_readStep_1 0 ?_
  refine x_iconst C d_M_readStep_2 1 ?_
  refine x_aload_n C d_M_readStep_3 0 rfl ?_
  refine x_get C d_M_readStep_4 f_M_dWires wd973 rfl rfl ?_
  refine x_ishl C d_M_readStep_7 ?_
  refine x_iconst C d_M_readStep_8 1 ?_
  refine x_isub C d_M_readStep_9 ?_
  refine x_cvi C d_M_readStep_10 wd1123 cm_M_readNumber rfl rfl [.int 0, .int ((jshl 1 (S.1 0 7)) - 1)] rfl rfl (by decide) (Nat.le_of_ble_eq_true rfl) hf (fun _ _ h => m_M_readNumber h) (fun v1 S2 hf hb_v1 => ?_)
  refine x_istore_n C d_M_readStep_13 [(1, .int v1), (0, .ref (w.1 0))] (by rw [hnL]; decide) rfl ?_
  refine x_aload_n C d_M_readStep_14 1 rfl ?_
  refine x_iconst C d_M_readStep_15 0 ?_
  refine x_sipush C d_M_readStep_16 255 ?_
  refine x_cvi C d_M_readStep_19 wd1123 cm_M_readNumber rfl rfl [.int 0, .int 255] rfl rfl (by decide) (Nat.le_of_ble_eq_true rfl) hf (fun _ _ h => m_M_readNumber h) (fun v3 S4 hf hb_v3 => ?_)
  refine x_istore_n C d_M_readStep_22 [(2, .int v3), (1, .int v1), (0, .ref (w.1 0))] (by rw [hnL]; decide) rfl ?_
  refine x_aload_n C d_M_readStep_23 2 rfl ?_
  refine x_iconst C d_M_readStep_24 1 ?_
  refine x_bipush C d_M_readStep_25 40 ?_
  refine x_cvv C d_M_readStep_27 wd1127 cm_M_isNumber rfl rfl [.int 1, .int 40] rfl rfl (by decide) (Nat.le_of_ble_eq_true rfl) hf (fun _ h => m_M_isNumber h) (fun S5 hf => ?_)
  refine x_aload_n C d_M_readStep_30 2 rfl ?_
  refine x_get C d_M_readStep_31 f_M_value wd985 rfl rfl ?_
  refine x_bi hf (fun v6 hf => ?_)
  refine x_istore_n C d_M_readStep_34 [(3, .int v6), (2, .int v3), (1, .int v1), (0, .ref (w.1 0))] (by rw [hnL]; decide) rfl ?_
  refine x_aload_n C d_M_readStep_35 3 rfl ?_
  refine x_get C d_M_readStep_36 f_M_fault wd986 rfl rfl ?_
  refine x_jn (fun J8 => ∀ (S7 : St), J8 S7 = some rs → WX shM w x S7 63 [(0, .ref (w.1 0)), (1, .int v1), (2, .int v3), (3, .int v6)] []) hf (fun S7 hf => ?_) (fun J8 hJ8 hf => ?_)
  · refine x_aload_n C d_M_readStep_63 0 rfl ?_
    refine x_cvv C d_M_readStep_64 wd1095 cm_M_next rfl rfl [] rfl rfl (by decide) (Nat.le_of_ble_eq_true rfl) hf (fun _ h => m_M_next h) (fun S9 hf => ?_)
    refine x_iconst C d_M_readStep_67 0 ?_
    refine x_istore C d_M_readStep_68 [(4, .int 0), (0, .ref (w.1 0)), (1, .int v1), (2, .int v3), (3, .int v6)] (by rw [hnL]; decide) rfl ?_
    refine x_sub [1, 2, 3, 4, 0] rfl ?_
    exact w_M_readStep_L70 hnL C hR  F S9 0 hf
  refine x_if_ne C d_M_readStep_39 hf (fun hf => ?_) (fun hf => ?_)
  · refine x_aload_n C d_M_readStep_42 3 rfl ?_
    refine x_aload_n C d_M_readStep_43 3 rfl ?_
    refine x_get C d_M_readStep_44 f_M_dLong wd977 rfl rfl ?_
    refine x_iload_n C d_M_readStep_47 0 rfl ?_
    refine x_iadd C d_M_readStep_48 ?_
    refine x_bipush C d_M_readStep_49 40 ?_
    refine x_jn (fun J17 => ∀ (v16 : Int32), J17 v16 = some rs → WX shM w x S5 59 [(0, .ref (w.1 0)), (1, .int v1), (2, .int v3), (3, .int v6)] [.int v16, .ref (w.1 0)]) hf (fun v16 hf => ?_) (fun J17 hJ17 hf => ?_)
    · refine x_iconst C d_M_readStep_59 5 ?_
      refine x_cvv C d_M_readStep_60 wd1113 cm_M_wants rfl rfl [.int v16, .int 5] rfl rfl (by decide) (Nat.le_of_ble_eq_true rfl) hf (fun _ h => m_M_wants h) (fun S18 hf => ?_)
      exact hJ8 S18 hf
    refine x_icmp_gt C d_M_readStep_51 hf (fun hf => ?_) (fun hf => ?_)
    · refine x_iconst C d_M_readStep_58 0 ?_
      refine x_sub [3, 2, 1, 0] rfl ?_
      exact hJ17 0 hf
    refine x_iconst C d_M_readStep_54 1 ?_
    refine x_goto C d_M_readStep_55 ?_
    refine x_sub [3, 2, 1, 0] rfl ?_
    exact hJ17 1 hf
  refine x_sub [3, 2, 1, 0] rfl ?_
  exact hJ8 S5 hf
