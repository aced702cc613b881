set_option maxRecDepth 4000 in
theorem m_M_readLine {w : Ww} {l0 : Launch} {F : Nat} {S : St} {rs : St}  (hf : M_readLine F S = some rs) : MV shM w l0 y_M_readLine b_M_readLine 3 6 [.ref (w.1 0)] S rs := by
  refine MV.of (by decide) (Nat.le_of_ble_eq_true rfl) rfl (fun x hnL C hR => ?_)
  rw [M_readLine] at hf
  refine x_aload_n C d_M_readLine_0 0 rfl ?_
  refine x_aload_n C d_M_readLine_1 0 rfl ?_
  refine x_get C d_M_readLine_2 f_M_sort wd984 rfl rfl ?_
  refine x_iconst C d_M_readLine_5 1 ?_
  refine x_jn (fun J2 => ∀ (v1 : Int32), J2 v1 = some rs → WX shM w x S 14 [(0, .ref (w.1 0))] [.int v1, .ref (w.1 0)]) hf (fun v1 hf => ?_) (fun J2 hJ2 hf => ?_)
  · refine x_iconst C d_M_readLine_14 2 ?_
    refine x_cvv C d_M_readLine_15 wd1113 cm_M_wants rfl rfl [.int v1, .int 2] rfl rfl (by decide) (Nat.le_of_ble_eq_true rfl) hf (fun _ h => m_M_wants h) (fun S3 hf => ?_)
    refine x_aload_n C d_M_readLine_18 0 rfl ?_
    refine x_get C d_M_readLine_19 f_M_fault wd986 rfl rfl ?_
    refine x_if_le C d_M_readLine_22 hf (fun hf => ?_) (fun hf => ?_)
    · exact hR _ _ _ d_M_readLine_25.1 hf
    refine x_aload_n C d_M_readLine_26 0 rfl ?_
    refine x_get C d_M_readLine_27 f_M_value wd985 rfl rfl ?_
    refine x_bi hf (fun v4 hf => ?_)
    refine x_istore_n C d_M_readLine_30 [(1, .int v4), (0, .ref (w.1 0))] (by rw [hnL]; decide) rfl ?_
    refine x_aload_n C d_M_readLine_31 1 rfl ?_
    refine x_iload_n C d_M_readLine_32 0 rfl ?_
    refine x_iconst C d_M_readLine_33 2 ?_
    refine x_jn (fun J6 => ∀ (v5 : Int32), J6 v5 = some rs → WX shM w x S3 51 [(0, .ref (w.1 0)), (1, .int v4)] [.int v5, .ref (w.1 0)]) hf (fun v5 hf => ?_) (fun J6 hJ6 hf => ?_)
    · refine x_iconst C d_M_readLine_51 4 ?_
      refine x_cvv C d_M_readLine_52 wd1113 cm_M_wants rfl rfl [.int v5, .int 4] rfl rfl (by decide) (Nat.le_of_ble_eq_true rfl) hf (fun _ h => m_M_wants h) (fun S7 hf => ?_)
      refine x_aload_n C d_M_readLine_55 0 rfl ?_
      refine x_iload_n C d_M_readLine_56 1 rfl ?_
      refine x_jn (fun J9 => ∀ (v8 : Int32), J9 v8 = some rs → WX shM w x S7 92 [(0, .ref (w.1 0)), (1, .int v4)] [.int v8, .ref (w.1 0)]) hf (fun v8 hf => ?_) (fun J9 hJ9 hf => ?_)
      · refine x_iconst C d_M_readLine_92 4 ?_
        refine x_cvv C d_M_readLine_93 wd1113 cm_M_wants rfl rfl [.int v8, .int 4] rfl rfl (by decide) (Nat.le_of_ble_eq_true rfl) hf (fun _ h => m_M_wants h) (fun S10 hf => ?_)
        refine x_aload_n C d_M_readLine_96 0 rfl ?_
        refine x_getr C d_M_readLine_97 f_M_isTold wd979 rfl rfl ?_
        refine x_iload_n C d_M_readLine_100 1 rfl ?_
        refine x_iconst C d_M_readLine_101 1 ?_
        refine x_zast C d_M_readLine_102 rfl (by decide) hf (fun S11 hf => ?_)
        refine x_aload_n C d_M_readLine_103 0 rfl ?_
        refine x_cvv C d_M_readLine_104 wd1095 cm_M_next rfl rfl [] rfl rfl (by decide) (Nat.le_of_ble_eq_true rfl) hf (fun _ h => m_M_next h) (fun S12 hf => ?_)
        refine x_iload_n C d_M_readLine_107 1 rfl ?_
        refine x_jn (fun J14 => ∀ (S13 : St), J14 S13 = some rs → WX shM w x S13 258 [(0, .ref (w.1 0))] []) hf (fun S13 hf => ?_) (fun J14 hJ14 hf => ?_)
        · refine x_aload_n C d_M_readLine_258 0 rfl ?_
          refine x_get C d_M_readLine_259 f_M_fault wd986 rfl rfl ?_
          refine x_jn (fun J16 => ∀ (S15 : St), J16 S15 = some rs → WX shM w x S15 283 [(0, .ref (w.1 0))] []) hf (fun S15 hf => ?_) (fun J16 hJ16 hf => ?_)
          · refine x_aload_n C d_M_readLine_283 0 rfl ?_
            refine x_cvv C d_M_readLine_284 wd1095 cm_M_next rfl rfl [] rfl rfl (by decide) (Nat.le_of_ble_eq_true rfl) hf (fun _ h => m_M_next h) (fun S17 hf => ?_)
            exact hR _ _ _ d_M_readLine_287.1 hf
          refine x_if_ne C d_M_readLine_262 hf (fun hf => ?_) (fun hf => ?_)
          · refine x_aload_n C d_M_readLine_265 0 rfl ?_
            refine x_aload_n C d_M_readLine_266 0 rfl ?_
            refine x_get C d_M_readLine_267 f_M_sort wd984 rfl rfl ?_
            refine x_iconst C d_M_readLine_270 3 ?_
            refine x_jn (fun J19 => ∀ (v18 : Int32), J19 v18 = some rs → WX shM w x S13 279 [(0, .ref (w.1 0))] [.int v18, .ref (w.1 0)]) hf (fun v18 hf => ?_) (fun J19 hJ19 hf => ?_)
            · refine x_iconst C d_M_readLine_279 2 ?_
              refine x_cvv C d_M_readLine_280 wd1113 cm_M_wants rfl rfl [.int v18, .int 2] rfl rfl (by decide) (Nat.le_of_ble_eq_true rfl) hf (fun _ h => m_M_wants h) (fun S20 hf => ?_)
              exact hJ16 S20 hf
            refine x_icmp_ne C d_M_readLine_271 hf (fun hf => ?_) (fun hf => ?_)
            · refine x_iconst C d_M_readLine_274 1 ?_
              refine x_goto C d_M_readLine_275 ?_
              exact hJ19 1 hf
            refine x_iconst C d_M_readLine_278 0 ?_
            exact hJ19 0 hf
          exact hJ16 S13 hf
        refine x_if_ne C d_M_readLine_108 hf (fun hf => ?_) (fun hf => ?_)
        · refine x_aload_n C d_M_readLine_111 0 rfl ?_
          refine x_aload_n C d_M_readLine_112 0 rfl ?_
          refine x_iconst C d_M_readLine_113 2 ?_
          refine x_bipush C d_M_readLine_114 8 ?_
          refine x_cvi C d_M_readLine_116 wd1123 cm_M_readNumber rfl rfl [.int 2, .int 8] rfl rfl (by decide) (Nat.le_of_ble_eq_true rfl) hf (fun _ _ h => m_M_readNumber h) (fun v21 S22 hf hb_v21 => ?_)
          refine x_put C d_M_readLine_119 f_M_dWires wd973 rfl rfl hf (fun S23 hf => ?_)
          refine x_goto C d_M_readLine_122 ?_
          refine x_sub [0] rfl ?_
          exact hJ14 S23 hf
        refine x_iload_n C d_M_readLine_125 1 rfl ?_
        refine x_iconst C d_M_readLine_126 1 ?_
        refine x_icmp_ne C d_M_readLine_127 hf (fun hf => ?_) (fun hf => ?_)
        · refine x_aload_n C d_M_readLine_130 0 rfl ?_
          refine x_aload_n C d_M_readLine_131 0 rfl ?_
          refine x_iconst C d_M_readLine_132 0 ?_
          refine x_bipush C d_M_readLine_133 99 ?_
          refine x_cvi C d_M_readLine_135 wd1123 cm_M_readNumber rfl rfl [.int 0, .int 99] rfl rfl (by decide) (Nat.le_of_ble_eq_true rfl) hf (fun _ _ h => m_M_readNumber h) (fun v24 S25 hf hb_v24 => ?_)
          refine x_put C d_M_readLine_138 f_M_dOwn wd974 rfl rfl hf (fun S26 hf => ?_)
          refine x_goto C d_M_readLine_141 ?_
          refine x_sub [0] rfl ?_
          exact hJ14 S26 hf
        refine x_iload_n C d_M_readLine_144 1 rfl ?_
        refine x_iconst C d_M_readLine_145 2 ?_
        refine x_icmp_ne C d_M_readLine_146 hf (fun hf => ?_) (fun hf => ?_)
        · refine x_aload_n C d_M_readLine_149 0 rfl ?_
          refine x_aload_n C d_M_readLine_150 0 rfl ?_
          refine x_iconst C d_M_readLine_151 0 ?_
          refine x_bipush C d_M_readLine_152 99 ?_
          refine x_cvi C d_M_readLine_154 wd1123 cm_M_readNumber rfl rfl [.int 0, .int 99] rfl rfl (by decide) (Nat.le_of_ble_eq_true rfl) hf (fun _ _ h => m_M_readNumber h) (fun v27 S28 hf hb_v27 => ?_)
          refine x_put C d_M_readLine_157 f_M_dSide wd975 rfl rfl hf (fun S29 hf => ?_)
          refine x_goto C d_M_readLine_160 ?_
          refine x_sub [0] rfl ?_
          exact hJ14 S29 hf
        refine x_iload_n C d_M_readLine_163 1 rfl ?_
        refine x_iconst C d_M_readLine_164 3 ?_
        refine x_icmp_ne C d_M_readLine_165 hf (fun hf => ?_) (fun hf => ?_)
        · refine x_aload_n C d_M_readLine_168 0 rfl ?_
          refine x_iconst C d_M_readLine_169 0 ?_
          refine x_aload_n C d_M_readLine_170 0 rfl ?_
          refine x_get C d_M_readLine_171 f_M_dWires wd973 rfl rfl ?_
          refine x_iconst C d_M_readLine_174 2 ?_
          refine x_isub C d_M_readLine_175 ?_
          refine x_cvv C d_M_readLine_176 wd1127 cm_M_isNumber rfl rfl [.int 0, .int ((S12.1 0 7) - 2)] rfl rfl (by decide) (Nat.le_of_ble_eq_true rfl) hf (fun _ h => m_M_isNumber h) (fun S30 hf => ?_)
          refine x_aload_n C d_M_readLine_179 0 rfl ?_
          refine x_get C d_M_readLine_180 f_M_value wd985 rfl rfl ?_
          refine x_bi hf (fun v31 hf => ?_)
          refine x_istore_n C d_M_readLine_183 [(2, .int v31), (0, .ref (w.1 0)), (1, .int v4)] (by rw [hnL]; decide) rfl ?_
          refine x_aload_n C d_M_readLine_184 1 rfl ?_
          refine x_get C d_M_readLine_185 f_M_fault wd986 rfl rfl ?_
          refine x_jn (fun J33 => ∀ (S32 : St), J33 S32 = some rs → WX shM w x S32 212 [(0, .ref (w.1 0)), (2, .int v31)] []) hf (fun S32 hf => ?_) (fun J33 hJ33 hf => ?_)
          · refine x_aload_n C d_M_readLine_212 0 rfl ?_
            refine x_dup C d_M_readLine_213 rfl ?_
            refine x_get C d_M_readLine_214 f_M_dShields wd976 rfl rfl ?_
            refine x_aload_n C d_M_readLine_217 0 rfl ?_
            refine x_get C d_M_readLine_218 f_M_fault wd986 rfl rfl ?_
            refine x_jn (fun J35 => ∀ (v34 : Int32), J35 v34 = some rs → WX shM w x S32 231 [(0, .ref (w.1 0))] [.int v34, .int (S32.1 0 10), .ref (w.1 0)]) hf (fun v34 hf => ?_) (fun J35 hJ35 hf => ?_)
            · refine x_ior C d_M_readLine_231 ?_
              refine x_put C d_M_readLine_232 f_M_dShields wd976 rfl rfl hf (fun S36 hf => ?_)
              refine x_aload_n C d_M_readLine_235 0 rfl ?_
              refine x_cvv C d_M_readLine_236 wd1095 cm_M_next rfl rfl [] rfl rfl (by decide) (Nat.le_of_ble_eq_true rfl) hf (fun _ h => m_M_next h) (fun S37 hf => ?_)
              refine x_goto C d_M_readLine_239 ?_
              exact hJ14 S37 hf
            refine x_if_ne C d_M_readLine_221 hf (fun hf => ?_) (fun hf => ?_)
            · refine x_iconst C d_M_readLine_224 1 ?_
              refine x_iload_n C d_M_readLine_225 1 rfl ?_
              refine x_ishl C d_M_readLine_226 ?_
              refine x_goto C d_M_readLine_227 ?_
              refine x_sub [0] rfl ?_
              exact hJ35 (jshl 1 v31) hf
            refine x_iconst C d_M_readLine_230 0 ?_
            refine x_sub [0] rfl ?_
            exact hJ35 0 hf
          refine x_if_ne C d_M_readLine_188 hf (fun hf => ?_) (fun hf => ?_)
          · refine x_aload_n C d_M_readLine_191 1 rfl ?_
            refine x_aload_n C d_M_readLine_192 1 rfl ?_
            refine x_get C d_M_readLine_193 f_M_dShields wd976 rfl rfl ?_
            refine x_iload_n C d_M_readLine_196 0 rfl ?_
            refine x_ishr C d_M_readLine_197 ?_
            refine x_iconst C d_M_readLine_198 1 ?_
            refine x_iand C d_M_readLine_199 ?_
            refine x_jn (fun J39 => ∀ (v38 : Int32), J39 v38 = some rs → WX shM w x S30 208 [(0, .ref (w.1 0)), (2, .int v31)] [.int v38, .ref (w.1 0)]) hf (fun v38 hf => ?_) (fun J39 hJ39 hf => ?_)
            · refine x_iconst C d_M_readLine_208 4 ?_
              refine x_cvv C d_M_readLine_209 wd1113 cm_M_wants rfl rfl [.int v38, .int 4] rfl rfl (by decide) (Nat.le_of_ble_eq_true rfl) hf (fun _ h => m_M_wants h) (fun S40 hf => ?_)
              exact hJ33 S40 hf
            refine x_if_ne C d_M_readLine_200 hf (fun hf => ?_) (fun hf => ?_)
            · refine x_iconst C d_M_readLine_203 1 ?_
              refine x_goto C d_M_readLine_204 ?_
              refine x_sub [1, 0] rfl ?_
              exact hJ39 1 hf
            refine x_iconst C d_M_readLine_207 0 ?_
            refine x_sub [1, 0] rfl ?_
            exact hJ39 0 hf
          refine x_sub [1, 0] rfl ?_
          exact hJ33 S30 hf
        refine x_iload_n C d_M_readLine_242 1 rfl ?_
        refine x_iconst C d_M_readLine_243 4 ?_
        refine x_icmp_ne C d_M_readLine_244 hf (fun hf => ?_) (fun hf => ?_)
        · refine x_aload_n C d_M_readLine_247 0 rfl ?_
          refine x_cvv C d_M_readLine_248 wd1131 cm_M_readSend rfl rfl [] rfl rfl (by decide) (Nat.le_of_ble_eq_true rfl) hf (fun _ h => m_M_readSend h) (fun S41 hf => ?_)
          refine x_goto C d_M_readLine_251 ?_
          refine x_sub [0] rfl ?_
          exact hJ14 S41 hf
        refine x_aload_n C d_M_readLine_254 0 rfl ?_
        refine x_cvv C d_M_readLine_255 wd1135 cm_M_readStep rfl rfl [] rfl rfl (by decide) (Nat.le_of_ble_eq_true rfl) hf (fun _ h => m_M_readStep h) (fun S42 hf => ?_)
        refine x_sub [0] rfl ?_
        exact hJ14 S42 hf
      refine x_jn (fun J43 => J43  = some rs → WX shM w x S7 87 [(0, .ref (w.1 0)), (1, .int v4)] [.ref (w.1 0)]) hf (fun hf => ?_) (fun J43 hJ43 hf => ?_)
      · refine x_iconst C d_M_readLine_87 1 ?_
        refine x_goto C d_M_readLine_88 ?_
        exact hJ9 1 hf
      refine x_if_ne C d_M_readLine_57 hf (fun hf => ?_) (fun hf => ?_)
      · refine x_aload_n C d_M_readLine_60 0 rfl ?_
        refine x_getr C d_M_readLine_61 f_M_isTold wd979 rfl rfl ?_
        refine x_iconst C d_M_readLine_64 3 ?_
        refine x_zald C d_M_readLine_65 rfl hf (fun hf => ?_)
        refine x_jn (fun J44 => J44  = some rs → WX shM w x S7 91 [(0, .ref (w.1 0)), (1, .int v4)] [.ref (w.1 0)]) hf (fun hf => ?_) (fun J44 hJ44 hf => ?_)
        · refine x_iconst C d_M_readLine_91 0 ?_
          exact hJ9 0 hf
        refine x_if_ne C d_M_readLine_66 hf (fun hf => ?_) (fun hf => ?_)
        · refine x_aload_n C d_M_readLine_69 0 rfl ?_
          refine x_getr C d_M_readLine_70 f_M_isTold wd979 rfl rfl ?_
          refine x_iconst C d_M_readLine_73 4 ?_
          refine x_zald C d_M_readLine_74 rfl hf (fun hf => ?_)
          refine x_if_ne C d_M_readLine_75 hf (fun hf => ?_) (fun hf => ?_)
          · refine x_aload_n C d_M_readLine_78 0 rfl ?_
            refine x_getr C d_M_readLine_79 f_M_isTold wd979 rfl rfl ?_
            refine x_iconst C d_M_readLine_82 5 ?_
            refine x_zald C d_M_readLine_83 rfl hf (fun hf => ?_)
            refine x_if_ne C d_M_readLine_84 hf (fun hf => ?_) (fun hf => ?_)
            · exact hJ43  hf
            exact hJ44  hf
          exact hJ44  hf
        exact hJ44  hf
      exact hJ43  hf
    refine x_jn (fun J45 => J45  = some rs → WX shM w x S3 46 [(0, .ref (w.1 0)), (1, .int v4)] [.ref (w.1 0)]) hf (fun hf => ?_) (fun J45 hJ45 hf => ?_)
    · refine x_iconst C d_M_readLine_46 1 ?_
      refine x_goto C d_M_readLine_47 ?_
      exact hJ6 1 hf
    refine x_icmp_gt C d_M_readLine_34 hf (fun hf => ?_) (fun hf => ?_)
    · refine x_sub [1, 0] rfl ?_
      exact hJ45  hf
    refine x_aload_n C d_M_readLine_37 1 rfl ?_
    refine x_getr C d_M_readLine_38 f_M_isTold wd979 rfl rfl ?_
    refine x_iload_n C d_M_readLine_41 0 rfl ?_
    refine x_zald C d_M_readLine_42 rfl hf (fun hf => ?_)
    refine x_if_ne C d_M_readLine_43 hf (fun hf => ?_) (fun hf => ?_)
    · refine x_sub [1, 0] rfl ?_
      exact hJ45  hf
    refine x_iconst C d_M_readLine_50 0 ?_
    refine x_sub [1, 0] rfl ?_
    exact hJ6 0 hf
  refine x_icmp_ne C d_M_readLine_6 hf (fun hf => ?_) (fun hf => ?_)
  · refine x_iconst C d_M_readLine_9 1 ?_
    refine x_goto C d_M_readLine_10 ?_
    exact hJ2 1 hf
  refine x_iconst C d_M_readLine_13 0 ?_
  exact hJ2 0 hf
set_option maxRecDepth 4000 in
theorem w_M_text_L174 {w : Ww} {l0 : Launch} {x : Cx} {F : Nat} {v13 : Int32} {rs : (Int32 × St)}  (hnL : x.2.2.2.2.2.2.2.2.2.2.2.2 = 3) (C : XC shM w "NeighbourWiresModel" b_M_text l0 7 x) (hR : RI shM w b_M_text bzT rs x)   : ∀ (n : Nat) (S22 : St) (v23 : Int32), M_text_L174 F v13 n S22 v23 = some rs → WX shM w x S22 174 [(0, .ref (w.1 0)), (1, .int v13), (2, .int v23)] [] := by
  intro n
  induction n with
  | zero => intro S22 v23 hf; cases hf
  | succ n ih =>
    intro S22 v23 hf
    rw [M_text_L174] at hf
    refine x_iload_n C d_M_text_174 2 rfl ?_
    refine x_bipush C d_M_text_175 9 ?_
    refine x_icmp_ge C d_M_text_177 hf (fun hf => ?_) (fun hf => ?_)
    · refine x_aload_n C d_M_text_180 0 rfl ?_
      refine x_getr C d_M_text_181 f_M_order wd972 rfl rfl ?_
      refine x_iload_n C d_M_text_184 2 rfl ?_
      refine x_iload_n C d_M_text_185 2 rfl ?_
      refine x_iast C d_M_text_186 rfl hf (fun S24 hf => ?_)
      refine x_iinc C 1 d_M_text_187 2 rfl (by rw [hnL]; decide) hf (fun v25 => [(2, .int v25), (0, .ref (w.1 0)), (1, .int v13)]) (fun _ => rfl) (fun v25 hf => ?_)
      refine x_goto C d_M_text_190 ?_
      refine x_sub [1, 2, 0] rfl ?_
      exact ih S24 v25 hf
    refine x_iload_n C d_M_text_193 1 rfl ?_
    exact hR _ _ _ _ d_M_text_194.1 hf trivial
set_option maxRecDepth 4000 in
theorem w_M_text_L148 {w : Ww} {l0 : Launch} {x : Cx} {F : Nat} {v13 : Int32} {rs : (Int32 × St)} {k20 : St → Option (Int32 × St)} (hnL : x.2.2.2.2.2.2.2.2.2.2.2.2 = 3) (C : XC shM w "NeighbourWiresModel" b_M_text l0 7 x) (hR : RI shM w b_M_text bzT rs x)  (hk20 : ∀ (S21 : St), k20 S21 = some rs → WX shM w x S21 172 [(0, .ref (w.1 0)), (1, .int v13)] []) : ∀ (n : Nat) (S26 : St) (v27 : Int32), M_text_L148 F v13 k20 n S26 v27 = some rs → WX shM w x S26 148 [(0, .ref (w.1 0)), (1, .int v13), (2, .int v27)] [] := by
  intro n
  induction n with
  | zero => intro S26 v27 hf; cases hf
  | succ n ih =>
    intro S26 v27 hf
    rw [M_text_L148] at hf
    refine x_iload_n C d_M_text_148 2 rfl ?_
    refine x_bipush C d_M_text_149 40 ?_
    refine x_icmp_ge C d_M_text_151 hf (fun hf => ?_) (fun hf => ?_)
    · refine x_aload_n C d_M_text_154 0 rfl ?_
      refine x_getr C d_M_text_155 f_M_words wd971 rfl rfl ?_
      refine x_iload_n C d_M_text_158 2 rfl ?_
      refine x_aload_n C d_M_text_159 0 rfl ?_
      refine x_getr C d_M_text_160 f_M_dWords wd978 rfl rfl ?_
      refine x_iload_n C d_M_text_163 2 rfl ?_
      refine x_iald C d_M_text_164 rfl hf (fun hf => ?_)
      refine x_iast C d_M_text_165 rfl hf (fun S28 hf => ?_)
      refine x_iinc C 1 d_M_text_166 2 rfl (by rw [hnL]; decide) hf (fun v29 => [(2, .int v29), (0, .ref (w.1 0)), (1, .int v13)]) (fun _ => rfl) (fun v29 hf => ?_)
      refine x_goto C d_M_text_169 ?_
      refine x_sub [1, 2, 0] rfl ?_
      exact ih S28 v29 hf
    refine x_sub [0, 1] rfl ?_
    exact hk20 S26 hf
set_option maxRecDepth 4000 in
theorem w_M_text_L62 {w : Ww} {l0 : Launch} {x : Cx} {F : Nat}  {rs : (Int32 × St)} {k11 : St → Int32 → Option (Int32 × St)} (hnL : x.2.2.2.2.2.2.2.2.2.2.2.2 = 3) (C : XC shM w "NeighbourWiresModel" b_M_text l0 7 x) (hR : RI shM w b_M_text bzT rs x)  (hk11 : ∀ (S12 : St) (v13 : Int32), k11 S12 v13 = some rs → WX shM w x S12 86 [(0, .ref (w.1 0)), (1, .int v13)] []) : ∀ (n : Nat) (S30 : St) (v31 : Int32), M_text_L62 F k11 n S30 v31 = some rs → WX shM w x S30 62 [(0, .ref (w.1 0)), (1, .int v31)] [] := by
  intro n
  induction n with
  | zero => intro S30 v31 hf; cases hf
  | succ n ih =>
    intro S30 v31 hf
    rw [M_text_L62] at hf
    refine x_aload_n C d_M_text_62 0 rfl ?_
    refine x_get C d_M_text_63 f_M_fault wd986 rfl rfl ?_
    refine x_if_ne C d_M_text_66 hf (fun hf => ?_) (fun hf => ?_)
    · refine x_aload_n C d_M_text_69 0 rfl ?_
      refine x_get C d_M_text_70 f_M_sort wd984 rfl rfl ?_
      refine x_if_eq C d_M_text_73 hf (fun hf => ?_) (fun hf => ?_)
      · exact hk11 S30 v31 hf
      refine x_aload_n C d_M_text_76 0 rfl ?_
      refine x_cvv C d_M_text_77 wd1119 cm_M_readLine rfl rfl [] rfl rfl (by decide) (Nat.le_of_ble_eq_true rfl) hf (fun _ h => m_M_readLine h) (fun S32 hf => ?_)
      refine x_iinc C 1 d_M_text_80 1 rfl (by rw [hnL]; decide) hf (fun v33 => [(1, .int v33), (0, .ref (w.1 0))]) (fun _ => rfl) (fun v33 hf => ?_)
      refine x_goto C d_M_text_83 ?_
      refine x_sub [1, 0] rfl ?_
      exact ih S32 v33 hf
    exact hk11 S30 v31 hf
set_option maxRecDepth 4000 in
theorem w_M_text_L39 {w : Ww} {l0 : Launch} {x : Cx} {F : Nat}  {rs : (Int32 × St)} {k8 : St → Option (Int32 × St)} (hnL : x.2.2.2.2.2.2.2.2.2.2.2.2 = 3) (C : XC shM w "NeighbourWiresModel" b_M_text l0 7 x) (hR : RI shM w b_M_text bzT rs x)  (hk8 : ∀ (S9 : St), k8 S9 = some rs → WX shM w x S9 58 [(0, .ref (w.1 0)), (1, .int 0)] []) : ∀ (n : Nat) (S34 : St) (v35 : Int32), M_text_L39 F k8 n S34 v35 = some rs → WX shM w x S34 39 [(0, .ref (w.1 0)), (1, .int 0), (2, .int v35)] [] := by
  intro n
  induction n with
  | zero => intro S34 v35 hf; cases hf
  | succ n ih =>
    intro S34 v35 hf
    rw [M_text_L39] at hf
    refine x_iload_n C d_M_text_39 2 rfl ?_
    refine x_bipush C d_M_text_40 6 ?_
    refine x_icmp_ge C d_M_text_42 hf (fun hf => ?_) (fun hf => ?_)
    · refine x_aload_n C d_M_text_45 0 rfl ?_
      refine x_getr C d_M_text_46 f_M_isTold wd979 rfl rfl ?_
      refine x_iload_n C d_M_text_49 2 rfl ?_
      refine x_iconst C d_M_text_50 0 ?_
      refine x_zast C d_M_text_51 rfl (by decide) hf (fun S36 hf => ?_)
      refine x_iinc C 1 d_M_text_52 2 rfl (by rw [hnL]; decide) hf (fun v37 => [(2, .int v37), (0, .ref (w.1 0)), (1, .int 0)]) (fun _ => rfl) (fun v37 hf => ?_)
      refine x_goto C d_M_text_55 ?_
      refine x_sub [1, 2, 0] rfl ?_
      exact ih S36 v37 hf
    refine x_sub [0, 1] rfl ?_
    exact hk8 S34 hf
set_option maxRecDepth 4000 in
theorem m_M_text {w : Ww} {l0 : Launch} {F : Nat} {S : St} {r : Int32} {S9 : St}  (hf : M_text F S = some (r, S9)) : MI shM w l0 y_M_text b_M_text 3 .int 7 [.ref (w.1 0)] S r S9 bzT := by
  refine MI.of (by decide) (Nat.le_of_ble_eq_true rfl) rfl (fun _ _ => rfl) (fun x hnL C hR => ?_)
  rw [M_text] at hf
  refine x_iconst C d_M_text_0 0 ?_
  refine x_istore_n C d_M_text_1 [(1, .int 0), (0, .ref (w.1 0))] (by rw [hnL]; decide) rfl ?_
  refine x_aload_n C d_M_text_2 1 rfl ?_
  refine x_iconst C d_M_text_3 0 ?_
  refine x_put C d_M_text_4 f_M_fault wd986 rfl rfl hf (fun S1 hf => ?_)
  refine x_aload_n C d_M_text_7 1 rfl ?_
  refine x_iconst C d_M_text_8 0 ?_
  refine x_put C d_M_text_9 f_M_pos wd982 rfl rfl hf (fun S2 hf => ?_)
  refine x_aload_n C d_M_text_12 1 rfl ?_
  refine x_iconst C d_M_text_13 4 ?_
  refine x_put C d_M_text_14 f_M_dWires wd973 rfl rfl hf (fun S3 hf => ?_)
  refine x_aload_n C d_M_text_17 1 rfl ?_
  refine x_iconst C d_M_text_18 1 ?_
  refine x_put C d_M_text_19 f_M_dOwn wd974 rfl rfl hf (fun S4 hf => ?_)
  refine x_aload_n C d_M_text_22 1 rfl ?_
  refine x_iconst C d_M_text_23 1 ?_
  refine x_put C d_M_text_24 f_M_dSide wd975 rfl rfl hf (fun S5 hf => ?_)
  refine x_aload_n C d_M_text_27 1 rfl ?_
  refine x_iconst C d_M_text_28 0 ?_
  refine x_put C d_M_text_29 f_M_dShields wd976 rfl rfl hf (fun S6 hf => ?_)
  refine x_aload_n C d_M_text_32 1 rfl ?_
  refine x_iconst C d_M_text_33 0 ?_
  refine x_put C d_M_text_34 f_M_dLong wd977 rfl rfl hf (fun S7 hf => ?_)
  refine x_iconst C d_M_text_37 0 ?_
  refine x_istore_n C d_M_text_38 [(2, .int 0), (1, .int 0), (0, .ref (w.1 0))] (by rw [hnL]; decide) rfl ?_
  refine x_sub [2, 1, 0] rfl ?_
  refine w_M_text_L39 hnL C hR (fun S9 hf => ?_) F S7 0 hf
  refine x_aload_n C d_M_text_58 0 rfl ?_
  refine x_cvv C d_M_text_59 wd1095 cm_M_next rfl rfl [] rfl rfl (by decide) (Nat.le_of_ble_eq_true rfl) hf (fun _ h => m_M_next h) (fun S10 hf => ?_)
  refine w_M_text_L62 hnL C hR (fun S12 v13 hf => ?_) F S10 0 hf
  refine x_aload_n C d_M_text_86 0 rfl ?_
  refine x_iconst C d_M_text_87 0 ?_
  refine x_put C d_M_text_88 f_M_taped wd981 rfl rfl hf (fun S14 hf => ?_)
  refine x_aload_n C d_M_text_91 0 rfl ?_
  refine x_get C d_M_text_92 f_M_fault wd986 rfl rfl ?_
  refine x_if_le C d_M_text_95 hf (fun hf => ?_) (fun hf => ?_)
  · refine x_bipush C d_M_text_98 (-10) ?_
    refine x_aload_n C d_M_text_100 0 rfl ?_
    refine x_get C d_M_text_101 f_M_wrongAt wd987 rfl rfl ?_
    refine x_isub C d_M_text_104 ?_
    exact hR _ _ _ _ d_M_text_105.1 hf trivial
  refine x_aload_n C d_M_text_106 0 rfl ?_
  refine x_aload_n C d_M_text_107 0 rfl ?_
  refine x_get C d_M_text_108 f_M_dWires wd973 rfl rfl ?_
  refine x_put C d_M_text_111 f_M_wires wd966 rfl rfl hf (fun S15 hf => ?_)
  refine x_aload_n C d_M_text_114 0 rfl ?_
  refine x_aload_n C d_M_text_115 0 rfl ?_
  refine x_get C d_M_text_116 f_M_dOwn wd974 rfl rfl ?_
  refine x_put C d_M_text_119 f_M_own wd967 rfl rfl hf (fun S16 hf => ?_)
  refine x_aload_n C d_M_text_122 0 rfl ?_
  refine x_aload_n C d_M_text_123 0 rfl ?_
  refine x_get C d_M_text_124 f_M_dSide wd975 rfl rfl ?_
  refine x_put C d_M_text_127 f_M_side wd968 rfl rfl hf (fun S17 hf => ?_)
  refine x_aload_n C d_M_text_130 0 rfl ?_
  refine x_aload_n C d_M_text_131 0 rfl ?_
  refine x_get C d_M_text_132 f_M_dShields wd976 rfl rfl ?_
  refine x_put C d_M_text_135 f_M_shields wd969 rfl rfl hf (fun S18 hf => ?_)
  refine x_aload_n C d_M_text_138 0 rfl ?_
  refine x_aload_n C d_M_text_139 0 rfl ?_
  refine x_get C d_M_text_140 f_M_dLong wd977 rfl rfl ?_
  refine x_put C d_M_text_143 f_M_rowLong wd970 rfl rfl hf (fun S19 hf => ?_)
  refine x_iconst C d_M_text_146 0 ?_
  refine x_istore_n C d_M_text_147 [(2, .int 0), (0, .ref (w.1 0)), (1, .int v13)] (by rw [hnL]; decide) rfl ?_
  refine x_sub [1, 2, 0] rfl ?_
  refine w_M_text_L148 hnL C hR (fun S21 hf => ?_) F S19 0 hf
  refine x_iconst C d_M_text_172 0 ?_
  refine x_istore_n C d_M_text_173 [(2, .int 0), (0, .ref (w.1 0)), (1, .int v13)] (by rw [hnL]; decide) rfl ?_
  refine x_sub [1, 2, 0] rfl ?_
  exact w_M_text_L174 hnL C hR  F S21 0 hf
set_option maxRecDepth 4000 in
theorem m_M_fault {w : Ww} {l0 : Launch} {F : Nat} {S : St} {rs : Int32}  (hf : M_fault F S = some rs) : MI shM w l0 y_M_fault b_M_fault 1 .int 0 [.ref (w.1 0)] S rs S bzT := by
  refine MI.of (by decide) (Nat.le_of_ble_eq_true rfl) rfl (fun _ _ => rfl) (fun x hnL C hR => ?_)
  rw [M_fault] at hf
  refine x_aload_n C d_M_fault_0 0 rfl ?_
  refine x_get C d_M_fault_1 f_M_fault wd986 rfl rfl ?_
  exact x_retR hR d_M_fault_4 hf trivial
set_option maxRecDepth 4000 in
theorem m_M_isWord {w : Ww} {l0 : Launch} {F : Nat} {S : St} {p1 : Int32} {rs : Int32}  (hf : M_isWord F S p1 = some rs) : MI shM w l0 y_M_isWord b_M_isWord 2 .boolean 1 [.ref (w.1 0), .int p1] S rs S bz01 := by
  refine MI.of (by decide) (Nat.le_of_ble_eq_true rfl) rfl (fun v hb => by rcases hb with rfl | rfl <;> decide) (fun x hnL C hR => ?_)
  rw [M_isWord] at hf
  refine x_iload_n C d_M_isWord_0 1 rfl ?_
  refine x_i2l C d_M_isWord_1 ?_
  refine x_lconst C d_M_isWord_2 0 ?_
  refine x_iconst C d_M_isWord_3 1 ?_
  refine x_aload_n C d_M_isWord_4 0 rfl ?_
  refine x_get C d_M_isWord_5 f_M_wires wd966 rfl rfl ?_
  refine x_ishl C d_M_isWord_8 ?_
  refine x_iconst C d_M_isWord_9 1 ?_
  refine x_isub C d_M_isWord_10 ?_
  refine x_i2l C d_M_isWord_11 ?_
  refine x_csr C d_M_isWord_12 wd1088 cm_M_in [.long (Int32.toInt64 p1), .long 0, .long (Int32.toInt64 ((jshl 1 (S.1 0 0)) - 1))] rfl rfl (by decide) (Nat.le_of_ble_eq_true rfl) hf (fun _ h => m_M_in h) (fun v1 hf hb_v1 => ?_)
  exact x_retR hR d_M_isWord_15 hf hb_v1
set_option maxRecDepth 4000 in
theorem w_M_order_L94 {w : Ww} {l0 : Launch} {x : Cx} {F : Nat}  {rs : (Int32 × St)}  (hnL : x.2.2.2.2.2.2.2.2.2.2.2.2 = 5) (C : XC shM w "NeighbourWiresModel" b_M_order l0 0 x) (hR : RI shM w b_M_order bzT rs x)   : ∀ (n : Nat) (S6 : St) (v7 : Int32), M_order_L94 F n S6 v7 = some rs → WX shM w x S6 94 [(0, .ref (w.1 0)), (4, .int v7)] [] := by
  intro n
  induction n with
  | zero => intro S6 v7 hf; cases hf
  | succ n ih =>
    intro S6 v7 hf
    rw [M_order_L94] at hf
    refine x_iload C d_M_order_94 1 rfl ?_
    refine x_aload_n C d_M_order_96 0 rfl ?_
    refine x_get C d_M_order_97 f_M_wires wd966 rfl rfl ?_
    refine x_icmp_ge C d_M_order_100 hf (fun hf => ?_) (fun hf => ?_)
    · refine x_aload_n C d_M_order_103 0 rfl ?_
      refine x_getr C d_M_order_104 f_M_order wd972 rfl rfl ?_
      refine x_iload C d_M_order_107 1 rfl ?_
      refine x_aload_n C d_M_order_109 0 rfl ?_
      refine x_getr C d_M_order_110 f_M_asked wd988 rfl rfl ?_
      refine x_iload C d_M_order_113 1 rfl ?_
      refine x_iald C d_M_order_115 rfl hf (fun hf => ?_)
      refine x_iast C d_M_order_116 rfl hf (fun S8 hf => ?_)
      refine x_iinc C 1 d_M_order_117 1 rfl (by rw [hnL]; decide) hf (fun v9 => [(4, .int v9), (0, .ref (w.1 0))]) (fun _ => rfl) (fun v9 hf => ?_)
      refine x_goto C d_M_order_120 ?_
      refine x_sub [1, 0] rfl ?_
      exact ih S8 v9 hf
    refine x_iconst C d_M_order_123 1 ?_
    exact hR _ _ _ _ d_M_order_124.1 hf trivial
set_option maxRecDepth 4000 in
theorem w_M_order_L18 {w : Ww} {l0 : Launch} {x : Cx} {F : Nat}  {rs : (Int32 × St)} {k2 : St → Int32 → Int32 → Option (Int32 × St)} (hnL : x.2.2.2.2.2.2.2.2.2.2.2.2 = 5) (C : XC shM w "NeighbourWiresModel" b_M_order l0 0 x) (hR : RI shM w b_M_order bzT rs x)  (hk2 : ∀ (S3 : St) (v4 : Int32) (v5 : Int32), k2 S3 v4 v5 = some rs → WX shM w x S3 73 [(0, .ref (w.1 0)), (2, .int v4), (3, .int v5)] []) : ∀ (n : Nat) (S10 : St) (v11 : Int32) (v12 : Int32) (v13 : Int32), M_order_L18 F k2 n S10 v11 v12 v13 = some rs → WX shM w x S10 18 [(0, .ref (w.1 0)), (2, .int v11), (3, .int v12), (4, .int v13)] [] := by
  intro n
  induction n with
  | zero => intro S10 v11 v12 v13 hf; cases hf
  | succ n ih =>
    intro S10 v11 v12 v13 hf
    rw [M_order_L18] at hf
    refine x_iload C d_M_order_18 3 rfl ?_
    refine x_if_lt C d_M_order_20 hf (fun hf => ?_) (fun hf => ?_)
    · refine x_sub [0, 1, 2] rfl ?_
      exact hk2 S10 v11 v12 hf
    refine x_aload_n C d_M_order_23 0 rfl ?_
    refine x_getr C d_M_order_24 f_M_asked wd988 rfl rfl ?_
    refine x_iload C d_M_order_27 3 rfl ?_
    refine x_iload_n C d_M_order_29 1 rfl ?_
    refine x_bipush C d_M_order_30 10 ?_
    refine x_irem C d_M_order_32 (by decide) ?_
    refine x_iast C d_M_order_33 rfl hf (fun S14 hf => ?_)
    refine x_iload_n C d_M_order_34 1 rfl ?_
    refine x_bipush C d_M_order_35 10 ?_
    refine x_idiv C d_M_order_37 (by decide) ?_
    refine x_bi hf (fun v15 hf => ?_)
    refine x_istore_n C d_M_order_38 [(2, .int v15), (0, .ref (w.1 0)), (3, .int v12), (4, .int v13)] (by rw [hnL]; decide) rfl ?_
    refine x_aload_n C d_M_order_39 1 rfl ?_
    refine x_getr C d_M_order_40 f_M_asked wd988 rfl rfl ?_
    refine x_iload C d_M_order_43 3 rfl ?_
    refine x_iald C d_M_order_45 rfl hf (fun hf => ?_)
    refine x_aload_n C d_M_order_46 1 rfl ?_
    refine x_get C d_M_order_47 f_M_wires wd966 rfl rfl ?_
    refine x_icmp_lt C d_M_order_50 hf (fun hf => ?_) (fun hf => ?_)
    · refine x_iload_n C d_M_order_55 2 rfl ?_
      refine x_iconst C d_M_order_56 1 ?_
      refine x_aload_n C d_M_order_57 1 rfl ?_
      refine x_getr C d_M_order_58 f_M_asked wd988 rfl rfl ?_
      refine x_iload C d_M_order_61 3 rfl ?_
      refine x_iald C d_M_order_63 rfl hf (fun hf => ?_)
      refine x_ishl C d_M_order_64 ?_
      refine x_ior C d_M_order_65 ?_
      refine x_bi hf (fun v16 hf => ?_)
      refine x_istore_n C d_M_order_66 [(3, .int v16), (2, .int v15), (0, .ref (w.1 0)), (4, .int v13)] (by rw [hnL]; decide) rfl ?_
      refine x_iinc C (-1) d_M_order_67 3 rfl (by rw [hnL]; decide) hf (fun v17 => [(4, .int v17), (3, .int v16), (2, .int v15), (0, .ref (w.1 0))]) (fun _ => rfl) (fun v17 hf => ?_)
      refine x_goto C d_M_order_70 ?_
      refine x_sub [3, 2, 1, 0] rfl ?_
      exact ih S14 v15 v16 v17 hf
    refine x_iconst C d_M_order_53 (-1) ?_
    exact hR _ _ _ _ d_M_order_54.1 hf trivial
set_option maxRecDepth 4000 in
theorem m_M_order {w : Ww} {l0 : Launch} {F : Nat} {S : St} {p1 : Int32} {r : Int32} {S9 : St}  (hf : M_order F S p1 = some (r, S9)) : MI shM w l0 y_M_order b_M_order 5 .int 0 [.ref (w.1 0), .int p1] S r S9 bzT := by
  refine MI.of (by decide) (Nat.le_of_ble_eq_true rfl) rfl (fun _ _ => rfl) (fun x hnL C hR => ?_)
  rw [M_order] at hf
  refine x_iload_n C d_M_order_0 1 rfl ?_
  refine x_if_ge C d_M_order_1 hf (fun hf => ?_) (fun hf => ?_)
  · refine x_iconst C d_M_order_4 (-1) ?_
    exact hR _ _ _ _ d_M_order_5.1 hf trivial
  refine x_iload_n C d_M_order_6 1 rfl ?_
  refine x_istore_n C d_M_order_7 [(2, .int p1), (0, .ref (w.1 0)), (1, .int p1)] (by rw [hnL]; decide) rfl ?_
  refine x_iconst C d_M_order_8 0 ?_
  refine x_istore_n C d_M_order_9 [(3, .int 0), (2, .int p1), (0, .ref (w.1 0)), (1, .int p1)] (by rw [hnL]; decide) rfl ?_
  refine x_aload_n C d_M_order_10 2 rfl ?_
  refine x_get C d_M_order_11 f_M_wires wd966 rfl rfl ?_
  refine x_iconst C d_M_order_14 1 ?_
  refine x_isub C d_M_order_15 ?_
  refine x_bi hf (fun v1 hf => ?_)
  refine x_istore C d_M_order_16 [(4, .int v1), (3, .int 0), (2, .int p1), (0, .ref (w.1 0)), (1, .int p1)] (by rw [hnL]; decide) rfl ?_
  refine x_sub [3, 2, 1, 0] rfl ?_
  refine w_M_order_L18 hnL C hR (fun S3 v4 v5 hf => ?_) F S p1 0 v1 hf
  refine x_iload_n C d_M_order_73 1 rfl ?_
  refine x_if_gt C d_M_order_74 hf (fun hf => ?_) (fun hf => ?_)
  · refine x_iconst C d_M_order_89 (-1) ?_
    exact hR _ _ _ _ d_M_order_90.1 hf trivial
  refine x_iload_n C d_M_order_77 2 rfl ?_
  refine x_iconst C d_M_order_78 1 ?_
  refine x_aload_n C d_M_order_79 0 rfl ?_
  refine x_get C d_M_order_80 f_M_wires wd966 rfl rfl ?_
  refine x_ishl C d_M_order_83 ?_
  refine x_iconst C d_M_order_84 1 ?_
  refine x_isub C d_M_order_85 ?_
  refine x_icmp_eq C d_M_order_86 hf (fun hf => ?_) (fun hf => ?_)
  · refine x_iconst C d_M_order_91 0 ?_
    refine x_istore C d_M_order_92 [(4, .int 0), (0, .ref (w.1 0)), (2, .int v4), (3, .int v5)] (by rw [hnL]; decide) rfl ?_
    refine x_sub [1, 0] rfl ?_
    exact w_M_order_L94 hnL C hR  F S3 0 hf
  refine x_iconst C d_M_order_89 (-1) ?_
  exact hR _ _ _ _ d_M_order_90.1 hf trivial
set_option maxRecDepth 4000 in
theorem m_M_shield {w : Ww} {l0 : Launch} {F : Nat} {S : St} {p1 : Int32} {p2 : Int32} {r : Int32} {S9 : St}  (hf : M_shield F S p1 p2 = some (r, S9)) : MI shM w l0 y_M_shield b_M_shield 4 .int 1 [.ref (w.1 0), .int p1, .int p2] S r S9 bzT := by
  refine MI.of (by decide) (Nat.le_of_ble_eq_true rfl) rfl (fun _ _ => rfl) (fun x hnL C hR => ?_)
  rw [M_shield] at hf
  refine x_iload_n C d_M_shield_0 1 rfl ?_
  refine x_i2l C d_M_shield_1 ?_
  refine x_lconst C d_M_shield_2 0 ?_
  refine x_aload_n C d_M_shield_3 0 rfl ?_
  refine x_get C d_M_shield_4 f_M_wires wd966 rfl rfl ?_
  refine x_iconst C d_M_shield_7 2 ?_
  refine x_isub C d_M_shield_8 ?_
  refine x_i2l C d_M_shield_9 ?_
  refine x_csr C d_M_shield_10 wd1088 cm_M_in [.long (Int32.toInt64 p1), .long 0, .long (Int32.toInt64 ((S.1 0 0) - 2))] rfl rfl (by decide) (Nat.le_of_ble_eq_true rfl) hf (fun _ h => m_M_in h) (fun v1 hf hb_v1 => ?_)
  refine x_if_ne C d_M_shield_13 hf (fun hf => ?_) (fun hf => ?_)
  · refine x_iconst C d_M_shield_16 (-1) ?_
    exact hR _ _ _ _ d_M_shield_17.1 hf trivial
  refine x_aload_n C d_M_shield_18 0 rfl ?_
  refine x_get C d_M_shield_19 f_M_shields wd969 rfl rfl ?_
  refine x_iload_n C d_M_shield_22 1 rfl ?_
  refine x_ishr C d_M_shield_23 ?_
  refine x_iconst C d_M_shield_24 1 ?_
  refine x_iand C d_M_shield_25 ?_
  refine x_bi hf (fun v2 hf => ?_)
  refine x_istore_n C d_M_shield_26 [(3, .int v2), (0, .ref (w.1 0)), (1, .int p1), (2, .int p2)] (by rw [hnL]; decide) rfl ?_
  refine x_aload_n C d_M_shield_27 1 rfl ?_
  refine x_iload_n C d_M_shield_28 3 rfl ?_
  refine x_jn (fun J4 => ∀ (v3 : Int32), J4 v3 = some (r, S9) → WX shM w x S 53 [(3, .int v2)] [.int v3, .ref (w.1 0)]) hf (fun v3 hf => ?_) (fun J4 hJ4 hf => ?_)
  · refine x_put C d_M_shield_53 f_M_shields wd969 rfl rfl hf (fun S5 hf => ?_)
    refine x_iload_n C d_M_shield_56 0 rfl ?_
    exact hR _ _ _ _ d_M_shield_57.1 hf trivial
  refine x_if_eq C d_M_shield_29 hf (fun hf => ?_) (fun hf => ?_)
  · refine x_aload_n C d_M_shield_43 1 rfl ?_
    refine x_get C d_M_shield_44 f_M_shields wd969 rfl rfl ?_
    refine x_iconst C d_M_shield_47 1 ?_
    refine x_iload_n C d_M_shield_48 2 rfl ?_
    refine x_ishl C d_M_shield_49 ?_
    refine x_iconst C d_M_shield_50 (-1) ?_
    refine x_ixor C d_M_shield_51 ?_
    refine x_iand C d_M_shield_52 ?_
    refine x_sub [0] rfl ?_
    exact hJ4 ((S.1 0 3) &&& ((jshl 1 p1) ^^^ (-1))) hf
  refine x_aload_n C d_M_shield_32 1 rfl ?_
  refine x_get C d_M_shield_33 f_M_shields wd969 rfl rfl ?_
  refine x_iconst C d_M_shield_36 1 ?_
  refine x_iload_n C d_M_shield_37 2 rfl ?_
  refine x_ishl C d_M_shield_38 ?_
  refine x_ior C d_M_shield_39 ?_
  refine x_goto C d_M_shield_40 ?_
  refine x_sub [0] rfl ?_
  exact hJ4 ((S.1 0 3) ||| (jshl 1 p1)) hf
set_option maxRecDepth 4000 in
theorem m_M_at {w : Ww} {l0 : Launch} {F : Nat} {S : St} {p1 : Int32} {p2 : Int32} {rs : Int32}  (hf : M_at F S p1 p2 = some rs) : MI shM w l0 y_M_at b_M_at 3 .int 1 [.ref (w.1 0), .int p1, .int p2] S rs S bzT := by
  refine MI.of (by decide) (Nat.le_of_ble_eq_true rfl) rfl (fun _ _ => rfl) (fun x hnL C hR => ?_)
  rw [M_at] at hf
  refine x_iload_n C d_M_at_0 1 rfl ?_
  refine x_i2l C d_M_at_1 ?_
  refine x_lconst C d_M_at_2 0 ?_
  refine x_aload_n C d_M_at_3 0 rfl ?_
  refine x_get C d_M_at_4 f_M_wires wd966 rfl rfl ?_
  refine x_iconst C d_M_at_7 1 ?_
  refine x_isub C d_M_at_8 ?_
  refine x_i2l C d_M_at_9 ?_
  refine x_csr C d_M_at_10 wd1088 cm_M_in [.long (Int32.toInt64 p1), .long 0, .long (Int32.toInt64 ((S.1 0 0) - 1))] rfl rfl (by decide) (Nat.le_of_ble_eq_true rfl) hf (fun _ h => m_M_in h) (fun v1 hf hb_v1 => ?_)
  refine x_if_eq C d_M_at_13 hf (fun hf => ?_) (fun hf => ?_)
  · refine x_iconst C d_M_at_26 (-1) ?_
    exact x_retR hR d_M_at_27 hf trivial
  refine x_iload_n C d_M_at_16 2 rfl ?_
  refine x_i2l C d_M_at_17 ?_
  refine x_lconst C d_M_at_18 0 ?_
  refine x_lconst C d_M_at_19 1 ?_
  refine x_csr C d_M_at_20 wd1088 cm_M_in [.long (Int32.toInt64 p2), .long 0, .long 1] rfl rfl (by decide) (Nat.le_of_ble_eq_true rfl) hf (fun _ h => m_M_in h) (fun v2 hf hb_v2 => ?_)
  refine x_if_ne C d_M_at_23 hf (fun hf => ?_) (fun hf => ?_)
  · refine x_iconst C d_M_at_26 (-1) ?_
    exact x_retR hR d_M_at_27 hf trivial
  refine x_iload_n C d_M_at_28 2 rfl ?_
  refine x_if_ne C d_M_at_29 hf (fun hf => ?_) (fun hf => ?_)
  · refine x_aload_n C d_M_at_32 0 rfl ?_
    refine x_getr C d_M_at_33 f_M_order wd972 rfl rfl ?_
    refine x_iload_n C d_M_at_36 1 rfl ?_
    refine x_iald C d_M_at_37 rfl hf (fun hf => ?_)
    refine x_goto C d_M_at_38 ?_
    exact x_retR hR d_M_at_63 hf trivial
  refine x_iload_n C d_M_at_41 1 rfl ?_
  refine x_aload_n C d_M_at_42 0 rfl ?_
  refine x_get C d_M_at_43 f_M_wires wd966 rfl rfl ?_
  refine x_iconst C d_M_at_46 1 ?_
  refine x_isub C d_M_at_47 ?_
  refine x_icmp_ge C d_M_at_48 hf (fun hf => ?_) (fun hf => ?_)
  · refine x_aload_n C d_M_at_51 0 rfl ?_
    refine x_get C d_M_at_52 f_M_shields wd969 rfl rfl ?_
    refine x_iload_n C d_M_at_55 1 rfl ?_
    refine x_ishr C d_M_at_56 ?_
    refine x_iconst C d_M_at_57 1 ?_
    refine x_iand C d_M_at_58 ?_
    refine x_goto C d_M_at_59 ?_
    exact x_retR hR d_M_at_63 hf trivial
  refine x_iconst C d_M_at_62 0 ?_
  exact x_retR hR d_M_at_63 hf trivial
set_option maxRecDepth 4000 in
theorem w_M_moves_L14 {w : Ww} {l0 : Launch} {x : Cx} {F : Nat} {p1 : Int32} {p2 : Int32} {p3 : Int32} {p4 : Int32} {rs : St}  (hnL : x.2.2.2.2.2.2.2.2.2.2.2.2 = 8) (C : XC shM w "NeighbourWiresModel" b_M_moves l0 0 x) (hR : RV shM w b_M_moves rs x)   : ∀ (n : Nat) (S3 : St) (v4 : Int32), M_moves_L14 F p1 p2 p3 p4 n S3 v4 = some rs → WX shM w x S3 14 [(0, .ref (w.1 0)), (1, .int p1), (2, .int p2), (3, .int p3), (4, .int p4), (6, .int v4)] [] := by
  intro n
  induction n with
  | zero => intro S3 v4 hf; cases hf
  | succ n ih =>
    intro S3 v4 hf
    rw [M_moves_L14] at hf
    refine x_iload C d_M_moves_14 5 rfl ?_
    refine x_iload_n C d_M_moves_16 3 rfl ?_
    refine x_icmp_ge C d_M_moves_17 hf (fun hf => ?_) (fun hf => ?_)
    · refine x_iload C d_M_moves_20 4 rfl ?_
      refine x_jn (fun J6 => ∀ (v5 : Int32), J6 v5 = some rs → WX shM w x S3 46 [(0, .ref (w.1 0)), (1, .int p1), (2, .int p2), (3, .int p3), (4, .int p4), (6, .int v4)] [.int v5]) hf (fun v5 hf => ?_) (fun J6 hJ6 hf => ?_)
      · refine x_istore C d_M_moves_46 [(7, .int v5), (0, .ref (w.1 0)), (1, .int p1), (2, .int p2), (3, .int p3), (4, .int p4), (6, .int v4)] (by rw [hnL]; decide) rfl ?_
        refine x_aload_n C d_M_moves_48 1 rfl ?_
        refine x_getr C d_M_moves_49 f_M_move wd989 rfl rfl ?_
        refine x_iload C d_M_moves_52 6 rfl ?_
        refine x_iload_n C d_M_moves_54 3 rfl ?_
        refine x_iload C d_M_moves_55 0 rfl ?_
        refine x_ishr C d_M_moves_57 ?_
        refine x_iconst C d_M_moves_58 1 ?_
        refine x_iand C d_M_moves_59 ?_
        refine x_iload_n C d_M_moves_60 2 rfl ?_
        refine x_iload C d_M_moves_61 0 rfl ?_
        refine x_ishr C d_M_moves_63 ?_
        refine x_iconst C d_M_moves_64 1 ?_
        refine x_iand C d_M_moves_65 ?_
        refine x_isub C d_M_moves_66 ?_
        refine x_iast C d_M_moves_67 rfl hf (fun S7 hf => ?_)
        refine x_iinc C 1 d_M_moves_68 6 rfl (by rw [hnL]; decide) hf (fun v8 => [(6, .int v8), (7, .int v5), (0, .ref (w.1 0)), (1, .int p1), (2, .int p2), (3, .int p3), (4, .int p4)]) (fun _ => rfl) (fun v8 hf => ?_)
        refine x_goto C d_M_moves_71 ?_
        refine x_sub [2, 3, 4, 5, 6, 0] rfl ?_
        exact ih S7 v8 hf
      refine x_jn (fun J9 => J9  = some rs → WX shM w x S3 44 [(0, .ref (w.1 0)), (1, .int p1), (2, .int p2), (3, .int p3), (4, .int p4), (6, .int v4)] []) hf (fun hf => ?_) (fun J9 hJ9 hf => ?_)
      · refine x_iload C d_M_moves_44 5 rfl ?_
        exact hJ6 v4 hf
      refine x_if_eq C d_M_moves_22 hf (fun hf => ?_) (fun hf => ?_)
      · exact hJ9  hf
      refine x_iload C d_M_moves_25 5 rfl ?_
      refine x_aload_n C d_M_moves_27 0 rfl ?_
      refine x_get C d_M_moves_28 f_M_wires wd966 rfl rfl ?_
      refine x_icmp_ge C d_M_moves_31 hf (fun hf => ?_) (fun hf => ?_)
      · refine x_aload_n C d_M_moves_34 0 rfl ?_
        refine x_getr C d_M_moves_35 f_M_order wd972 rfl rfl ?_
        refine x_iload C d_M_moves_38 5 rfl ?_
        refine x_iald C d_M_moves_40 rfl hf (fun hf => ?_)
        refine x_goto C d_M_moves_41 ?_
        exact hJ6 (S3.1 2 (Int32.toNatClampNeg v4)) hf
      exact hJ9  hf
    exact hR _ _ _ d_M_moves_74.1 hf
set_option maxRecDepth 4000 in
theorem m_M_moves {w : Ww} {l0 : Launch} {F : Nat} {S : St} {p1 : Int32} {p2 : Int32} {p3 : Int32} {p4 : Int32} {p5 : Int32} {rs : St}  (hf : M_moves F S p1 p2 p3 p4 p5 = some rs) : MV shM w l0 y_M_moves b_M_moves 8 0 [.ref (w.1 0), .int p1, .int p2, .int p3, .int p4, .int p5] S rs := by
  refine MV.of (by decide) (Nat.le_of_ble_eq_true rfl) rfl (fun x hnL C hR => ?_)
  rw [M_moves] at hf
  refine x_aload_n C d_M_moves_0 0 rfl ?_
  refine x_iload_n C d_M_moves_1 3 rfl ?_
  refine x_put C d_M_moves_2 f_M_places wd990 rfl rfl hf (fun S1 hf => ?_)
  refine x_aload_n C d_M_moves_5 0 rfl ?_
  refine x_iload C d_M_moves_6 5 rfl ?_
  refine x_put C d_M_moves_8 f_M_guards wd991 rfl rfl hf (fun S2 hf => ?_)
  refine x_iconst C d_M_moves_11 0 ?_
  refine x_istore C d_M_moves_12 [(6, .int 0), (0, .ref (w.1 0)), (1, .int p1), (2, .int p2), (3, .int p3), (4, .int p4), (5, .int p5)] (by rw [hnL]; decide) rfl ?_
  refine x_sub [1, 2, 3, 4, 5, 0] rfl ?_
  exact w_M_moves_L14 hnL C hR  F S2 0 hf
set_option maxRecDepth 4000 in
theorem m_M_isGuarded {w : Ww} {l0 : Launch} {F : Nat} {S : St} {p1 : Int32} {rs : Int32}  (hf : M_isGuarded F S p1 = some rs) : MI shM w l0 y_M_isGuarded b_M_isGuarded 2 .boolean 0 [.ref (w.1 0), .int p1] S rs S bz01 := by
  refine MI.of (by decide) (Nat.le_of_ble_eq_true rfl) rfl (fun v hb => by rcases hb with rfl | rfl <;> decide) (fun x hnL C hR => ?_)
  rw [M_isGuarded] at hf
  refine x_aload_n C d_M_isGuarded_0 0 rfl ?_
  refine x_get C d_M_isGuarded_1 f_M_guards wd991 rfl rfl ?_
  refine x_iload_n C d_M_isGuarded_4 1 rfl ?_
  refine x_ishr C d_M_isGuarded_5 ?_
  refine x_iconst C d_M_isGuarded_6 1 ?_
  refine x_iand C d_M_isGuarded_7 ?_
  refine x_iconst C d_M_isGuarded_8 1 ?_
  refine x_icmp_ne C d_M_isGuarded_9 hf (fun hf => ?_) (fun hf => ?_)
  · refine x_iconst C d_M_isGuarded_12 1 ?_
    refine x_goto C d_M_isGuarded_13 ?_
    exact x_retR hR d_M_isGuarded_17 hf (Or.inr rfl)
  refine x_iconst C d_M_isGuarded_16 0 ?_
  exact x_retR hR d_M_isGuarded_17 hf (Or.inl rfl)
set_option maxRecDepth 4000 in
theorem w_M_movedNow_L4 {w : Ww} {l0 : Launch} {x : Cx} {F : Nat} {S : St} {rs : Int32}  (hnL : x.2.2.2.2.2.2.2.2.2.2.2.2 = 3) (C : XC shM w "NeighbourWiresModel" b_M_movedNow l0 0 x) (hR : RI shM w b_M_movedNow bzT (rs, S) x)   : ∀ (n : Nat) (v1 : Int32) (v2 : Int32), M_movedNow_L4 F S n v1 v2 = some rs → WX shM w x S 4 [(0, .ref (w.1 0)), (1, .int v1), (2, .int v2)] [] := by
  intro n
  induction n with
  | zero => intro v1 v2 hf; cases hf
  | succ n ih =>
    intro v1 v2 hf
    rw [M_movedNow_L4] at hf
    refine x_iload_n C d_M_movedNow_4 2 rfl ?_
    refine x_aload_n C d_M_movedNow_5 0 rfl ?_
    refine x_get C d_M_movedNow_6 f_M_places wd990 rfl rfl ?_
    refine x_icmp_ge C d_M_movedNow_9 hf (fun hf => ?_) (fun hf => ?_)
    · refine x_iload_n C d_M_movedNow_12 1 rfl ?_
      refine x_aload_n C d_M_movedNow_13 0 rfl ?_
      refine x_getr C d_M_movedNow_14 f_M_move wd989 rfl rfl ?_
      refine x_iload_n C d_M_movedNow_17 2 rfl ?_
      refine x_iald C d_M_movedNow_18 rfl hf (fun hf => ?_)
      refine x_jn (fun J4 => ∀ (v3 : Int32), J4 v3 = some rs → WX shM w x S 27 [(0, .ref (w.1 0)), (2, .int v2)] [.int v3, .int v1]) hf (fun v3 hf => ?_) (fun J4 hJ4 hf => ?_)
      · refine x_iadd C d_M_movedNow_27 ?_
        refine x_bi hf (fun v5 hf => ?_)
        refine x_istore_n C d_M_movedNow_28 [(1, .int v5), (0, .ref (w.1 0)), (2, .int v2)] (by rw [hnL]; decide) rfl ?_
        refine x_iinc C 1 d_M_movedNow_29 2 rfl (by rw [hnL]; decide) hf (fun v6 => [(2, .int v6), (1, .int v5), (0, .ref (w.1 0))]) (fun _ => rfl) (fun v6 hf => ?_)
        refine x_goto C d_M_movedNow_32 ?_
        refine x_sub [2, 1, 0] rfl ?_
        exact ih v5 v6 hf
      refine x_if_ne C d_M_movedNow_19 hf (fun hf => ?_) (fun hf => ?_)
      · refine x_iconst C d_M_movedNow_22 0 ?_
        refine x_goto C d_M_movedNow_23 ?_
        refine x_sub [0, 2] rfl ?_
        exact hJ4 0 hf
      refine x_iconst C d_M_movedNow_26 1 ?_
      refine x_sub [0, 2] rfl ?_
      exact hJ4 1 hf
    refine x_iload_n C d_M_movedNow_35 1 rfl ?_
    exact x_retR hR d_M_movedNow_36 hf trivial
set_option maxRecDepth 4000 in
theorem m_M_movedNow {w : Ww} {l0 : Launch} {F : Nat} {S : St} {rs : Int32}  (hf : M_movedNow F S = some rs) : MI shM w l0 y_M_movedNow b_M_movedNow 3 .int 0 [.ref (w.1 0)] S rs S bzT := by
  refine MI.of (by decide) (Nat.le_of_ble_eq_true rfl) rfl (fun _ _ => rfl) (fun x hnL C hR => ?_)
  rw [M_movedNow] at hf
  refine x_iconst C d_M_movedNow_0 0 ?_
  refine x_istore_n C d_M_movedNow_1 [(1, .int 0), (0, .ref (w.1 0))] (by rw [hnL]; decide) rfl ?_
  refine x_iconst C d_M_movedNow_2 0 ?_
  refine x_istore_n C d_M_movedNow_3 [(2, .int 0), (1, .int 0), (0, .ref (w.1 0))] (by rw [hnL]; decide) rfl ?_
  refine x_sub [2, 1, 0] rfl ?_
  exact w_M_movedNow_L4 hnL C hR  F 0 0 hf
set_option maxRecDepth 4000 in
theorem w_M_costNow_L4 {w : Ww} {l0 : Launch} {x : Cx} {F : Nat} {S : St} {rs : Int32} {k1 : Int32 → Option Int32} (hnL : x.2.2.2.2.2.2.2.2.2.2.2.2 = 4) (C : XC shM w "NeighbourWiresModel" b_M_costNow l0 1 x) (hR : RI shM w b_M_costNow bzT (rs, S) x)  (hk1 : ∀ (v2 : Int32), k1 v2 = some rs → WX shM w x S 84 [(0, .ref (w.1 0)), (1, .int v2)] []) : ∀ (n : Nat) (v4 : Int32) (v5 : Int32), M_costNow_L4 F S k1 n v4 v5 = some rs → WX shM w x S 4 [(0, .ref (w.1 0)), (1, .int v4), (2, .int v5)] [] := by
  intro n
  induction n with
  | zero => intro v4 v5 hf; cases hf
  | succ n ih =>
    intro v4 v5 hf
    rw [M_costNow_L4] at hf
    refine x_iload_n C d_M_costNow_4 2 rfl ?_
    refine x_aload_n C d_M_costNow_5 0 rfl ?_
    refine x_get C d_M_costNow_6 f_M_places wd990 rfl rfl ?_
    refine x_iconst C d_M_costNow_9 1 ?_
    refine x_isub C d_M_costNow_10 ?_
    refine x_icmp_ge C d_M_costNow_11 hf (fun hf => ?_) (fun hf => ?_)
    · refine x_aload_n C d_M_costNow_14 0 rfl ?_
      refine x_getr C d_M_costNow_15 f_M_move wd989 rfl rfl ?_
      refine x_iload_n C d_M_costNow_18 2 rfl ?_
      refine x_iald C d_M_costNow_19 rfl hf (fun hf => ?_)
      refine x_aload_n C d_M_costNow_20 0 rfl ?_
      refine x_getr C d_M_costNow_21 f_M_move wd989 rfl rfl ?_
      refine x_iload_n C d_M_costNow_24 2 rfl ?_
      refine x_iconst C d_M_costNow_25 1 ?_
      refine x_iadd C d_M_costNow_26 ?_
      refine x_iald C d_M_costNow_27 rfl hf (fun hf => ?_)
      refine x_isub C d_M_costNow_28 ?_
      refine x_bi hf (fun v6 hf => ?_)
      refine x_istore_n C d_M_costNow_29 [(3, .int v6), (0, .ref (w.1 0)), (1, .int v4), (2, .int v5)] (by rw [hnL]; decide) rfl ?_
      refine x_iload_n C d_M_costNow_30 2 rfl ?_
      refine x_aload_n C d_M_costNow_31 1 rfl ?_
      refine x_iload_n C d_M_costNow_32 3 rfl ?_
      refine x_cvr C d_M_costNow_33 wd1180 cm_M_isGuarded rfl rfl [.int v5] rfl rfl (by decide) (Nat.le_of_ble_eq_true rfl) hf (fun _ h => m_M_isGuarded h) (fun v7 hf hb_v7 => ?_)
      refine x_jn (fun J9 => ∀ (v8 : Int32), J9 v8 = some rs → WX shM w x S 76 [(0, .ref (w.1 0)), (2, .int v5)] [.int v8, .int v4]) hf (fun v8 hf => ?_) (fun J9 hJ9 hf => ?_)
      · refine x_iadd C d_M_costNow_76 ?_
        refine x_bi hf (fun v10 hf => ?_)
        refine x_istore_n C d_M_costNow_77 [(1, .int v10), (0, .ref (w.1 0)), (2, .int v5)] (by rw [hnL]; decide) rfl ?_
        refine x_iinc C 1 d_M_costNow_78 2 rfl (by rw [hnL]; decide) hf (fun v11 => [(2, .int v11), (1, .int v10), (0, .ref (w.1 0))]) (fun _ => rfl) (fun v11 hf => ?_)
        refine x_goto C d_M_costNow_81 ?_
        refine x_sub [2, 1, 0] rfl ?_
        exact ih v10 v11 hf
      refine x_if_eq C d_M_costNow_36 hf (fun hf => ?_) (fun hf => ?_)
      · refine x_iload_n C d_M_costNow_73 0 rfl ?_
        refine x_iload_n C d_M_costNow_74 0 rfl ?_
        refine x_imul C d_M_costNow_75 ?_
        refine x_sub [1, 3] rfl ?_
        exact hJ9 (v6 * v6) hf
      refine x_aload_n C d_M_costNow_39 1 rfl ?_
      refine x_getr C d_M_costNow_40 f_M_move wd989 rfl rfl ?_
      refine x_iload_n C d_M_costNow_43 3 rfl ?_
      refine x_iald C d_M_costNow_44 rfl hf (fun hf => ?_)
      refine x_aload_n C d_M_costNow_45 1 rfl ?_
      refine x_getr C d_M_costNow_46 f_M_move wd989 rfl rfl ?_
      refine x_iload_n C d_M_costNow_49 3 rfl ?_
      refine x_iald C d_M_costNow_50 rfl hf (fun hf => ?_)
      refine x_imul C d_M_costNow_51 ?_
      refine x_aload_n C d_M_costNow_52 1 rfl ?_
      refine x_getr C d_M_costNow_53 f_M_move wd989 rfl rfl ?_
      refine x_iload_n C d_M_costNow_56 3 rfl ?_
      refine x_iconst C d_M_costNow_57 1 ?_
      refine x_iadd C d_M_costNow_58 ?_
      refine x_iald C d_M_costNow_59 rfl hf (fun hf => ?_)
      refine x_aload_n C d_M_costNow_60 1 rfl ?_
      refine x_getr C d_M_costNow_61 f_M_move wd989 rfl rfl ?_
      refine x_iload_n C d_M_costNow_64 3 rfl ?_
      refine x_iconst C d_M_costNow_65 1 ?_
      refine x_iadd C d_M_costNow_66 ?_
      refine x_iald C d_M_costNow_67 rfl hf (fun hf => ?_)
      refine x_imul C d_M_costNow_68 ?_
      refine x_iadd C d_M_costNow_69 ?_
      refine x_goto C d_M_costNow_70 ?_
      refine x_sub [1, 3] rfl ?_
      exact hJ9 (((S.1 7 (Int32.toNatClampNeg v5)) * (S.1 7 (Int32.toNatClampNeg v5))) + ((S.1 7 (Int32.toNatClampNeg (v5 + 1))) * (S.1 7 (Int32.toNatClampNeg (v5 + 1))))) hf
    refine x_sub [0, 1] rfl ?_
    exact hk1 v4 hf
set_option maxRecDepth 4000 in
theorem m_M_costNow {w : Ww} {l0 : Launch} {F : Nat} {S : St} {rs : Int32}  (hf : M_costNow F S = some rs) : MI shM w l0 y_M_costNow b_M_costNow 4 .int 1 [.ref (w.1 0)] S rs S bzT := by
  refine MI.of (by decide) (Nat.le_of_ble_eq_true rfl) rfl (fun _ _ => rfl) (fun x hnL C hR => ?_)
  rw [M_costNow] at hf
  refine x_iconst C d_M_costNow_0 0 ?_
  refine x_istore_n C d_M_costNow_1 [(1, .int 0), (0, .ref (w.1 0))] (by rw [hnL]; decide) rfl ?_
  refine x_iconst C d_M_costNow_2 0 ?_
  refine x_istore_n C d_M_costNow_3 [(2, .int 0), (1, .int 0), (0, .ref (w.1 0))] (by rw [hnL]; decide) rfl ?_
  refine x_sub [2, 1, 0] rfl ?_
  refine w_M_costNow_L4 hnL C hR (fun v2 hf => ?_) F 0 0 hf
  refine x_aload_n C d_M_costNow_84 0 rfl ?_
  refine x_get C d_M_costNow_85 f_M_own wd967 rfl rfl ?_
  refine x_aload_n C d_M_costNow_88 0 rfl ?_
  refine x_cvr C d_M_costNow_89 wd1184 cm_M_movedNow rfl rfl [] rfl rfl (by decide) (Nat.le_of_ble_eq_true rfl) hf (fun _ h => m_M_movedNow h) (fun v3 hf hb_v3 => ?_)
  refine x_imul C d_M_costNow_92 ?_
  refine x_aload_n C d_M_costNow_93 0 rfl ?_
  refine x_get C d_M_costNow_94 f_M_side wd968 rfl rfl ?_
  refine x_iload_n C d_M_costNow_97 1 rfl ?_
  refine x_imul C d_M_costNow_98 ?_
  refine x_iadd C d_M_costNow_99 ?_
  exact x_retR hR d_M_costNow_100 hf trivial
set_option maxRecDepth 4000 in
theorem m_M_slowAt {w : Ww} {l0 : Launch} {F : Nat} {S : St} {p1 : Int32} {rs : Int32}  (hf : M_slowAt F S p1 = some rs) : MI shM w l0 y_M_slowAt b_M_slowAt 3 .int 1 [.ref (w.1 0), .int p1] S rs S bzT := by
  refine MI.of (by decide) (Nat.le_of_ble_eq_true rfl) rfl (fun _ _ => rfl) (fun x hnL C hR => ?_)
  rw [M_slowAt] at hf
  refine x_aload_n C d_M_slowAt_0 0 rfl ?_
  refine x_getr C d_M_slowAt_1 f_M_move wd989 rfl rfl ?_
  refine x_iload_n C d_M_slowAt_4 1 rfl ?_
  refine x_iald C d_M_slowAt_5 rfl hf (fun hf => ?_)
  refine x_if_ne C d_M_slowAt_6 hf (fun hf => ?_) (fun hf => ?_)
  · refine x_iconst C d_M_slowAt_9 0 ?_
    exact x_retR hR d_M_slowAt_10 hf trivial
  refine x_iconst C d_M_slowAt_11 0 ?_
  refine x_istore_n C d_M_slowAt_12 [(2, .int 0), (0, .ref (w.1 0)), (1, .int p1)] (by rw [hnL]; decide) rfl ?_
  refine x_iload_n C d_M_slowAt_13 2 rfl ?_
  refine x_jn (fun J2 => ∀ (v1 : Int32), J2 v1 = some rs → WX shM w x S 52 [(0, .ref (w.1 0)), (1, .int p1), (2, .int v1)] []) hf (fun v1 hf => ?_) (fun J2 hJ2 hf => ?_)
  · refine x_iload_n C d_M_slowAt_52 1 rfl ?_
    refine x_aload_n C d_M_slowAt_53 0 rfl ?_
    refine x_get C d_M_slowAt_54 f_M_places wd990 rfl rfl ?_
    refine x_iconst C d_M_slowAt_57 1 ?_
    refine x_isub C d_M_slowAt_58 ?_
    refine x_icmp_ge C d_M_slowAt_59 hf (fun hf => ?_) (fun hf => ?_)
    · refine x_iload_n C d_M_slowAt_62 2 rfl ?_
      refine x_aload_n C d_M_slowAt_63 0 rfl ?_
      refine x_iload_n C d_M_slowAt_64 1 rfl ?_
      refine x_cvr C d_M_slowAt_65 wd1180 cm_M_isGuarded rfl rfl [.int p1] rfl rfl (by decide) (Nat.le_of_ble_eq_true rfl) hf (fun _ h => m_M_isGuarded h) (fun v3 hf hb_v3 => ?_)
      refine x_jn (fun J5 => ∀ (v4 : Int32), J5 v4 = some rs → WX shM w x S 93 [] [.int v4, .int v1]) hf (fun v4 hf => ?_) (fun J5 hJ5 hf => ?_)
      · refine x_iadd C d_M_slowAt_93 ?_
        refine x_bi hf (fun v6 hf => ?_)
        refine x_istore_n C d_M_slowAt_94 [(2, .int v6)] (by rw [hnL]; decide) rfl ?_
        refine x_iload_n C d_M_slowAt_95 0 rfl ?_
        exact x_retR hR d_M_slowAt_96 hf trivial
      refine x_if_eq C d_M_slowAt_68 hf (fun hf => ?_) (fun hf => ?_)
      · refine x_aload_n C d_M_slowAt_75 0 rfl ?_
        refine x_getr C d_M_slowAt_76 f_M_move wd989 rfl rfl ?_
        refine x_iload_n C d_M_slowAt_79 1 rfl ?_
        refine x_iald C d_M_slowAt_80 rfl hf (fun hf => ?_)
        refine x_aload_n C d_M_slowAt_81 0 rfl ?_
        refine x_getr C d_M_slowAt_82 f_M_move wd989 rfl rfl ?_
        refine x_iload_n C d_M_slowAt_85 1 rfl ?_
        refine x_iconst C d_M_slowAt_86 1 ?_
        refine x_iadd C d_M_slowAt_87 ?_
        refine x_iald C d_M_slowAt_88 rfl hf (fun hf => ?_)
        refine x_isub C d_M_slowAt_89 ?_
        refine x_csr C d_M_slowAt_90 wd1196 cm_M_plain [.int ((S.1 7 (Int32.toNatClampNeg p1)) - (S.1 7 (Int32.toNatClampNeg (p1 + 1))))] rfl rfl (by decide) (Nat.le_of_ble_eq_true rfl) hf (fun _ h => m_M_plain h) (fun v7 hf hb_v7 => ?_)
        refine x_sub [] rfl ?_
        exact hJ5 v7 hf
      refine x_iconst C d_M_slowAt_71 1 ?_
      refine x_goto C d_M_slowAt_72 ?_
      refine x_sub [] rfl ?_
      exact hJ5 1 hf
    refine x_iload_n C d_M_slowAt_95 2 rfl ?_
    exact x_retR hR d_M_slowAt_96 hf trivial
  refine x_if_le C d_M_slowAt_14 hf (fun hf => ?_) (fun hf => ?_)
  · refine x_iload_n C d_M_slowAt_17 0 rfl ?_
    refine x_aload_n C d_M_slowAt_18 1 rfl ?_
    refine x_iload_n C d_M_slowAt_19 2 rfl ?_
    refine x_iconst C d_M_slowAt_20 1 ?_
    refine x_isub C d_M_slowAt_21 ?_
    refine x_cvr C d_M_slowAt_22 wd1180 cm_M_isGuarded rfl rfl [.int (p1 - 1)] rfl rfl (by decide) (Nat.le_of_ble_eq_true rfl) hf (fun _ h => m_M_isGuarded h) (fun v8 hf hb_v8 => ?_)
    refine x_jn (fun J10 => ∀ (v9 : Int32), J10 v9 = some rs → WX shM w x S 50 [(0, .ref (w.1 0)), (1, .int p1)] [.int v9, .int 0]) hf (fun v9 hf => ?_) (fun J10 hJ10 hf => ?_)
    · refine x_iadd C d_M_slowAt_50 ?_
      refine x_bi hf (fun v11 hf => ?_)
      refine x_istore_n C d_M_slowAt_51 [(2, .int v11), (0, .ref (w.1 0)), (1, .int p1)] (by rw [hnL]; decide) rfl ?_
      refine x_sub [1, 2, 0] rfl ?_
      exact hJ2 v11 hf
    refine x_if_eq C d_M_slowAt_25 hf (fun hf => ?_) (fun hf => ?_)
    · refine x_aload_n C d_M_slowAt_32 1 rfl ?_
      refine x_getr C d_M_slowAt_33 f_M_move wd989 rfl rfl ?_
      refine x_iload_n C d_M_slowAt_36 2 rfl ?_
      refine x_iald C d_M_slowAt_37 rfl hf (fun hf => ?_)
      refine x_aload_n C d_M_slowAt_38 1 rfl ?_
      refine x_getr C d_M_slowAt_39 f_M_move wd989 rfl rfl ?_
      refine x_iload_n C d_M_slowAt_42 2 rfl ?_
      refine x_iconst C d_M_slowAt_43 1 ?_
      refine x_isub C d_M_slowAt_44 ?_
      refine x_iald C d_M_slowAt_45 rfl hf (fun hf => ?_)
      refine x_isub C d_M_slowAt_46 ?_
      refine x_csr C d_M_slowAt_47 wd1196 cm_M_plain [.int ((S.1 7 (Int32.toNatClampNeg p1)) - (S.1 7 (Int32.toNatClampNeg (p1 - 1))))] rfl rfl (by decide) (Nat.le_of_ble_eq_true rfl) hf (fun _ h => m_M_plain h) (fun v12 hf hb_v12 => ?_)
      refine x_sub [1, 2] rfl ?_
      exact hJ10 v12 hf
    refine x_iconst C d_M_slowAt_28 1 ?_
    refine x_goto C d_M_slowAt_29 ?_
    refine x_sub [1, 2] rfl ?_
    exact hJ10 1 hf
  refine x_sub [1, 2, 0] rfl ?_
  exact hJ2 0 hf
