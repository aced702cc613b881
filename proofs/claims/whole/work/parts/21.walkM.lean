set_option maxRecDepth 4000 in
theorem w_M_best_L277 {w : Ww} {l0 : Launch} {x : Cx} {F : Nat} {p1 : Int32} {v6 : Int32} {S13 : St} {v24 : Int32} {rs : (Int32 × St)} {J21 : Int32 → Int32 → Option (Int32 × St)} (hnL : x.2.2.2.2.2.2.2.2.2.2.2.2 = 8) (C : XC shM w "NeighbourWiresModel" b_M_best l0 2 x) (hR : RI shM w b_M_best bzT rs x)  (hJ21 : ∀ (v19 : Int32) (v20 : Int32), J21 v19 v20 = some rs → WX shM w x S13 307 [(0, .ref (w.1 0)), (1, .int p1), (2, .int v6), (3, .int v19), (4, .int v20)] []) : ∀ (n : Nat) (v25 : Int32) (v26 : Int32), M_best_L277 F p1 v6 S13 v24 J21 n v25 v26 = some rs → WX shM w x S13 277 [(0, .ref (w.1 0)), (1, .int p1), (2, .int v6), (3, .int v24), (4, .int v25), (7, .int v26)] [] := by
  intro n
  induction n with
  | zero => intro v25 v26 hf; cases hf
  | succ n ih =>
    intro v25 v26 hf
    rw [M_best_L277] at hf
    refine x_iload C d_M_best_277 5 rfl ?_
    refine x_aload_n C d_M_best_279 0 rfl ?_
    refine x_get C d_M_best_280 f_M_wires wd966 rfl rfl ?_
    refine x_icmp_ge C d_M_best_283 hf (fun hf => ?_) (fun hf => ?_)
    · refine x_bipush C d_M_best_286 10 ?_
      refine x_iload C d_M_best_288 4 rfl ?_
      refine x_imul C d_M_best_290 ?_
      refine x_aload_n C d_M_best_291 0 rfl ?_
      refine x_getr C d_M_best_292 f_M_tried wd993 rfl rfl ?_
      refine x_iload C d_M_best_295 5 rfl ?_
      refine x_iald C d_M_best_297 rfl hf (fun hf => ?_)
      refine x_iadd C d_M_best_298 ?_
      refine x_bi hf (fun v27 hf => ?_)
      refine x_istore C d_M_best_299 [(4, .int v27), (0, .ref (w.1 0)), (1, .int p1), (2, .int v6), (3, .int v24), (7, .int v26)] (by rw [hnL]; decide) rfl ?_
      refine x_iinc C 1 d_M_best_301 5 rfl (by rw [hnL]; decide) hf (fun v28 => [(7, .int v28), (4, .int v27), (0, .ref (w.1 0)), (1, .int p1), (2, .int v6), (3, .int v24)]) (fun _ => rfl) (fun v28 hf => ?_)
      refine x_goto C d_M_best_304 ?_
      refine x_sub [2, 3, 4, 5, 1, 0] rfl ?_
      exact ih v27 v28 hf
    refine x_sub [0, 1, 2, 3, 4] rfl ?_
    exact hJ21 v24 v25 hf
set_option maxRecDepth 4000 in
theorem w_M_best_L205 {w : Ww} {l0 : Launch} {x : Cx} {F : Nat} {p1 : Int32} {v6 : Int32} {S13 : St} {v14 : Int32} {v15 : Int32} {rs : (Int32 × St)} {k17 : Int32 → Option (Int32 × St)} (hnL : x.2.2.2.2.2.2.2.2.2.2.2.2 = 8) (C : XC shM w "NeighbourWiresModel" b_M_best l0 2 x) (hR : RI shM w b_M_best bzT rs x)  (hk17 : ∀ (v18 : Int32), k17 v18 = some rs → WX shM w x S13 252 [(0, .ref (w.1 0)), (1, .int p1), (2, .int v6), (3, .int v14), (4, .int v15), (6, .int v18)] []) : ∀ (n : Nat) (v29 : Int32) (v30 : Int32), M_best_L205 F p1 v6 S13 v14 v15 k17 n v29 v30 = some rs → WX shM w x S13 205 [(0, .ref (w.1 0)), (1, .int p1), (2, .int v6), (3, .int v14), (4, .int v15), (6, .int v29), (7, .int v30)] [] := by
  intro n
  induction n with
  | zero => intro v29 v30 hf; cases hf
  | succ n ih =>
    intro v29 v30 hf
    rw [M_best_L205] at hf
    refine x_iload C d_M_best_205 6 rfl ?_
    refine x_aload_n C d_M_best_207 0 rfl ?_
    refine x_get C d_M_best_208 f_M_wires wd966 rfl rfl ?_
    refine x_iconst C d_M_best_211 1 ?_
    refine x_isub C d_M_best_212 ?_
    refine x_icmp_ge C d_M_best_213 hf (fun hf => ?_) (fun hf => ?_)
    · refine x_iload C d_M_best_216 5 rfl ?_
      refine x_aload_n C d_M_best_218 0 rfl ?_
      refine x_getr C d_M_best_219 f_M_beside wd992 rfl rfl ?_
      refine x_bipush C d_M_best_222 8 ?_
      refine x_aload_n C d_M_best_224 0 rfl ?_
      refine x_getr C d_M_best_225 f_M_tried wd993 rfl rfl ?_
      refine x_iload C d_M_best_228 6 rfl ?_
      refine x_iald C d_M_best_230 rfl hf (fun hf => ?_)
      refine x_imul C d_M_best_231 ?_
      refine x_aload_n C d_M_best_232 0 rfl ?_
      refine x_getr C d_M_best_233 f_M_tried wd993 rfl rfl ?_
      refine x_iload C d_M_best_236 6 rfl ?_
      refine x_iconst C d_M_best_238 1 ?_
      refine x_iadd C d_M_best_239 ?_
      refine x_iald C d_M_best_240 rfl hf (fun hf => ?_)
      refine x_iadd C d_M_best_241 ?_
      refine x_iald C d_M_best_242 rfl hf (fun hf => ?_)
      refine x_iadd C d_M_best_243 ?_
      refine x_bi hf (fun v31 hf => ?_)
      refine x_istore C d_M_best_244 [(6, .int v31), (0, .ref (w.1 0)), (1, .int p1), (2, .int v6), (3, .int v14), (4, .int v15), (7, .int v30)] (by rw [hnL]; decide) rfl ?_
      refine x_iinc C 1 d_M_best_246 6 rfl (by rw [hnL]; decide) hf (fun v32 => [(7, .int v32), (6, .int v31), (0, .ref (w.1 0)), (1, .int p1), (2, .int v6), (3, .int v14), (4, .int v15)]) (fun _ => rfl) (fun v32 hf => ?_)
      refine x_goto C d_M_best_249 ?_
      refine x_sub [2, 3, 4, 5, 6, 1, 0] rfl ?_
      exact ih v31 v32 hf
    refine x_sub [0, 1, 2, 3, 4, 5] rfl ?_
    exact hk17 v29 hf
set_option maxRecDepth 4000 in
theorem w_M_best_L194 {w : Ww} {l0 : Launch} {x : Cx} {F : Nat} {p1 : Int32} {v6 : Int32} {rs : (Int32 × St)} {k9 : St → Int32 → Int32 → Option (Int32 × St)} (hnL : x.2.2.2.2.2.2.2.2.2.2.2.2 = 8) (C : XC shM w "NeighbourWiresModel" b_M_best l0 2 x) (hR : RI shM w b_M_best bzT rs x)  (hk9 : ∀ (S10 : St) (v11 : Int32) (v12 : Int32), k9 S10 v11 v12 = some rs → WX shM w x S10 316 [(0, .ref (w.1 0)), (1, .int p1), (2, .int v6), (3, .int v11), (4, .int v12)] []) : ∀ (n : Nat) (S13 : St) (v14 : Int32) (v15 : Int32) (v16 : Int32), M_best_L194 F p1 v6 k9 n S13 v14 v15 v16 = some rs → WX shM w x S13 194 [(0, .ref (w.1 0)), (1, .int p1), (2, .int v6), (3, .int v14), (4, .int v15), (5, .int v16)] [] := by
  intro n
  induction n with
  | zero => intro S13 v14 v15 v16 hf; cases hf
  | succ n ih =>
    intro S13 v14 v15 v16 hf
    rw [M_best_L194] at hf
    refine x_iload C d_M_best_194 5 rfl ?_
    refine x_if_eq C d_M_best_196 hf (fun hf => ?_) (fun hf => ?_)
    · refine x_sub [0, 1, 2, 3, 4] rfl ?_
      exact hk9 S13 v14 v15 hf
    refine x_iconst C d_M_best_199 0 ?_
    refine x_istore C d_M_best_200 [(6, .int 0), (0, .ref (w.1 0)), (1, .int p1), (2, .int v6), (3, .int v14), (4, .int v15), (5, .int v16)] (by rw [hnL]; decide) rfl ?_
    refine x_iconst C d_M_best_202 0 ?_
    refine x_istore C d_M_best_203 [(7, .int 0), (6, .int 0), (0, .ref (w.1 0)), (1, .int p1), (2, .int v6), (3, .int v14), (4, .int v15), (5, .int v16)] (by rw [hnL]; decide) rfl ?_
    refine x_sub [2, 3, 4, 5, 6, 1, 0] rfl ?_
    refine w_M_best_L205 hnL C hR (fun v18 hf => ?_) F 0 0 hf
    refine x_aload_n C d_M_best_252 0 rfl ?_
    refine x_get C d_M_best_253 f_M_side wd968 rfl rfl ?_
    refine x_iload C d_M_best_256 5 rfl ?_
    refine x_imul C d_M_best_258 ?_
    refine x_iload_n C d_M_best_259 3 rfl ?_
    refine x_jn (fun J21 => ∀ (v19 : Int32) (v20 : Int32), J21 v19 v20 = some rs → WX shM w x S13 307 [(0, .ref (w.1 0)), (1, .int p1), (2, .int v6), (3, .int v19), (4, .int v20)] []) hf (fun v19 v20 hf => ?_) (fun J21 hJ21 hf => ?_)
    · refine x_aload_n C d_M_best_307 0 rfl ?_
      refine x_cvi C d_M_best_308 wd1235 cm_M_goesOn rfl rfl [] rfl rfl (by decide) (Nat.le_of_ble_eq_true rfl) hf (fun _ _ h => m_M_goesOn h) (fun v22 S23 hf hb_v22 => ?_)
      refine x_istore C d_M_best_311 [(5, .int v22), (0, .ref (w.1 0)), (1, .int p1), (2, .int v6), (3, .int v19), (4, .int v20)] (by rw [hnL]; decide) rfl ?_
      refine x_goto C d_M_best_313 ?_
      refine x_sub [1, 2, 3, 4, 5, 0] rfl ?_
      exact ih S23 v19 v20 v22 hf
    refine x_icmp_ge C d_M_best_260 hf (fun hf => ?_) (fun hf => ?_)
    · refine x_aload_n C d_M_best_263 0 rfl ?_
      refine x_get C d_M_best_264 f_M_side wd968 rfl rfl ?_
      refine x_iload C d_M_best_267 5 rfl ?_
      refine x_imul C d_M_best_269 ?_
      refine x_bi hf (fun v24 hf => ?_)
      refine x_istore_n C d_M_best_270 [(3, .int v24), (0, .ref (w.1 0)), (1, .int p1), (2, .int v6), (4, .int v15), (6, .int v18)] (by rw [hnL]; decide) rfl ?_
      refine x_iconst C d_M_best_271 0 ?_
      refine x_istore C d_M_best_272 [(4, .int 0), (3, .int v24), (0, .ref (w.1 0)), (1, .int p1), (2, .int v6), (6, .int v18)] (by rw [hnL]; decide) rfl ?_
      refine x_iconst C d_M_best_274 0 ?_
      refine x_istore C d_M_best_275 [(7, .int 0), (4, .int 0), (3, .int v24), (0, .ref (w.1 0)), (1, .int p1), (2, .int v6), (6, .int v18)] (by rw [hnL]; decide) rfl ?_
      refine x_sub [3, 4, 5, 2, 1, 0] rfl ?_
      exact w_M_best_L277 hnL C hR hJ21 F 0 0 hf
    refine x_sub [0, 1, 2, 3, 4] rfl ?_
    exact hJ21 v14 v15 hf
set_option maxRecDepth 4000 in
theorem w_M_best_L164 {w : Ww} {l0 : Launch} {x : Cx} {F : Nat} {p1 : Int32} {v6 : Int32} {rs : (Int32 × St)} {k7 : St → Option (Int32 × St)} (hnL : x.2.2.2.2.2.2.2.2.2.2.2.2 = 8) (C : XC shM w "NeighbourWiresModel" b_M_best l0 2 x) (hR : RI shM w b_M_best bzT rs x)  (hk7 : ∀ (S8 : St), k7 S8 = some rs → WX shM w x S8 185 [(0, .ref (w.1 0)), (1, .int p1), (2, .int v6)] []) : ∀ (n : Nat) (S33 : St) (v34 : Int32), M_best_L164 F p1 v6 k7 n S33 v34 = some rs → WX shM w x S33 164 [(0, .ref (w.1 0)), (1, .int p1), (2, .int v6), (3, .int v34)] [] := by
  intro n
  induction n with
  | zero => intro S33 v34 hf; cases hf
  | succ n ih =>
    intro S33 v34 hf
    rw [M_best_L164] at hf
    refine x_iload_n C d_M_best_164 3 rfl ?_
    refine x_aload_n C d_M_best_165 0 rfl ?_
    refine x_get C d_M_best_166 f_M_wires wd966 rfl rfl ?_
    refine x_icmp_ge C d_M_best_169 hf (fun hf => ?_) (fun hf => ?_)
    · refine x_aload_n C d_M_best_172 0 rfl ?_
      refine x_getr C d_M_best_173 f_M_tried wd993 rfl rfl ?_
      refine x_iload_n C d_M_best_176 3 rfl ?_
      refine x_iload_n C d_M_best_177 3 rfl ?_
      refine x_iast C d_M_best_178 rfl hf (fun S35 hf => ?_)
      refine x_iinc C 1 d_M_best_179 3 rfl (by rw [hnL]; decide) hf (fun v36 => [(3, .int v36), (0, .ref (w.1 0)), (1, .int p1), (2, .int v6)]) (fun _ => rfl) (fun v36 hf => ?_)
      refine x_goto C d_M_best_182 ?_
      refine x_sub [1, 2, 3, 0] rfl ?_
      exact ih S35 v36 hf
    refine x_sub [0, 1, 2] rfl ?_
    exact hk7 S33 hf
set_option maxRecDepth 4000 in
theorem w_M_best_L88 {w : Ww} {l0 : Launch} {x : Cx} {F : Nat} {p1 : Int32} {v39 : Int32} {v43 : Int32} {v48 : Int32} {rs : (Int32 × St)} {k49 : St → Option (Int32 × St)} (hnL : x.2.2.2.2.2.2.2.2.2.2.2.2 = 8) (C : XC shM w "NeighbourWiresModel" b_M_best l0 2 x) (hR : RI shM w b_M_best bzT rs x)  (hk49 : ∀ (S50 : St), k49 S50 = some rs → WX shM w x S50 150 [(0, .ref (w.1 0)), (1, .int p1), (2, .int v43), (3, .int v39), (4, .int v48)] []) : ∀ (n : Nat) (S52 : St) (v53 : Int32), M_best_L88 F p1 v39 v43 v48 k49 n S52 v53 = some rs → WX shM w x S52 88 [(0, .ref (w.1 0)), (1, .int p1), (2, .int v43), (3, .int v39), (4, .int v48), (5, .int v53)] [] := by
  intro n
  induction n with
  | zero => intro S52 v53 hf; cases hf
  | succ n ih =>
    intro S52 v53 hf
    rw [M_best_L88] at hf
    refine x_iload C d_M_best_88 5 rfl ?_
    refine x_aload_n C d_M_best_90 0 rfl ?_
    refine x_get C d_M_best_91 f_M_wires wd966 rfl rfl ?_
    refine x_icmp_ge C d_M_best_94 hf (fun hf => ?_) (fun hf => ?_)
    · refine x_aload_n C d_M_best_97 0 rfl ?_
      refine x_getr C d_M_best_98 f_M_beside wd992 rfl rfl ?_
      refine x_bipush C d_M_best_101 8 ?_
      refine x_iload C d_M_best_103 4 rfl ?_
      refine x_imul C d_M_best_105 ?_
      refine x_iload C d_M_best_106 5 rfl ?_
      refine x_iadd C d_M_best_108 ?_
      refine x_dup2 C d_M_best_109 rfl rfl ?_
      refine x_iald C d_M_best_110 rfl hf (fun hf => ?_)
      refine x_aload_n C d_M_best_111 0 rfl ?_
      refine x_getr C d_M_best_112 f_M_move wd989 rfl rfl ?_
      refine x_iload C d_M_best_115 4 rfl ?_
      refine x_iald C d_M_best_117 rfl hf (fun hf => ?_)
      refine x_aload_n C d_M_best_118 0 rfl ?_
      refine x_getr C d_M_best_119 f_M_move wd989 rfl rfl ?_
      refine x_iload C d_M_best_122 5 rfl ?_
      refine x_iald C d_M_best_124 rfl hf (fun hf => ?_)
      refine x_isub C d_M_best_125 ?_
      refine x_aload_n C d_M_best_126 0 rfl ?_
      refine x_getr C d_M_best_127 f_M_move wd989 rfl rfl ?_
      refine x_iload C d_M_best_130 4 rfl ?_
      refine x_iald C d_M_best_132 rfl hf (fun hf => ?_)
      refine x_aload_n C d_M_best_133 0 rfl ?_
      refine x_getr C d_M_best_134 f_M_move wd989 rfl rfl ?_
      refine x_iload C d_M_best_137 5 rfl ?_
      refine x_iald C d_M_best_139 rfl hf (fun hf => ?_)
      refine x_isub C d_M_best_140 ?_
      refine x_imul C d_M_best_141 ?_
      refine x_iadd C d_M_best_142 ?_
      refine x_iast C d_M_best_143 rfl hf (fun S54 hf => ?_)
      refine x_iinc C 1 d_M_best_144 5 rfl (by rw [hnL]; decide) hf (fun v55 => [(5, .int v55), (0, .ref (w.1 0)), (1, .int p1), (2, .int v43), (3, .int v39), (4, .int v48)]) (fun _ => rfl) (fun v55 hf => ?_)
      refine x_goto C d_M_best_147 ?_
      refine x_sub [1, 2, 3, 4, 5, 0] rfl ?_
      exact ih S54 v55 hf
    refine x_sub [0, 1, 2, 3, 4] rfl ?_
    exact hk49 S52 hf
set_option maxRecDepth 4000 in
theorem w_M_best_L76 {w : Ww} {l0 : Launch} {x : Cx} {F : Nat} {p1 : Int32} {v39 : Int32} {v43 : Int32} {rs : (Int32 × St)} {k44 : St → Option (Int32 × St)} (hnL : x.2.2.2.2.2.2.2.2.2.2.2.2 = 8) (C : XC shM w "NeighbourWiresModel" b_M_best l0 2 x) (hR : RI shM w b_M_best bzT rs x)  (hk44 : ∀ (S45 : St), k44 S45 = some rs → WX shM w x S45 156 [(0, .ref (w.1 0)), (1, .int p1), (2, .int v43), (3, .int v39)] []) : ∀ (n : Nat) (S47 : St) (v48 : Int32), M_best_L76 F p1 v39 v43 k44 n S47 v48 = some rs → WX shM w x S47 76 [(0, .ref (w.1 0)), (1, .int p1), (2, .int v43), (3, .int v39), (4, .int v48)] [] := by
  intro n
  induction n with
  | zero => intro S47 v48 hf; cases hf
  | succ n ih =>
    intro S47 v48 hf
    rw [M_best_L76] at hf
    refine x_iload C d_M_best_76 4 rfl ?_
    refine x_aload_n C d_M_best_78 0 rfl ?_
    refine x_get C d_M_best_79 f_M_wires wd966 rfl rfl ?_
    refine x_icmp_ge C d_M_best_82 hf (fun hf => ?_) (fun hf => ?_)
    · refine x_iconst C d_M_best_85 0 ?_
      refine x_istore C d_M_best_86 [(5, .int 0), (0, .ref (w.1 0)), (1, .int p1), (2, .int v43), (3, .int v39), (4, .int v48)] (by rw [hnL]; decide) rfl ?_
      refine x_sub [1, 2, 3, 4, 5, 0] rfl ?_
      refine w_M_best_L88 hnL C hR (fun S50 hf => ?_) F S47 0 hf
      refine x_iinc C 1 d_M_best_150 4 rfl (by rw [hnL]; decide) hf (fun v51 => [(4, .int v51), (0, .ref (w.1 0)), (1, .int p1), (2, .int v43), (3, .int v39)]) (fun _ => rfl) (fun v51 hf => ?_)
      refine x_goto C d_M_best_153 ?_
      refine x_sub [1, 2, 3, 4, 0] rfl ?_
      exact ih S50 v51 hf
    refine x_sub [0, 1, 2, 3] rfl ?_
    exact hk44 S47 hf
set_option maxRecDepth 4000 in
theorem w_M_best_L37 {w : Ww} {l0 : Launch} {x : Cx} {F : Nat} {p1 : Int32} {rs : (Int32 × St)} {k4 : St → Int32 → Option (Int32 × St)} (hnL : x.2.2.2.2.2.2.2.2.2.2.2.2 = 8) (C : XC shM w "NeighbourWiresModel" b_M_best l0 2 x) (hR : RI shM w b_M_best bzT rs x)  (hk4 : ∀ (S5 : St) (v6 : Int32), k4 S5 v6 = some rs → WX shM w x S5 162 [(0, .ref (w.1 0)), (1, .int p1), (2, .int v6)] []) : ∀ (n : Nat) (S37 : St) (v38 : Int32) (v39 : Int32), M_best_L37 F p1 k4 n S37 v38 v39 = some rs → WX shM w x S37 37 [(0, .ref (w.1 0)), (1, .int p1), (2, .int v38), (3, .int v39)] [] := by
  intro n
  induction n with
  | zero => intro S37 v38 v39 hf; cases hf
  | succ n ih =>
    intro S37 v38 v39 hf
    rw [M_best_L37] at hf
    refine x_iload_n C d_M_best_37 3 rfl ?_
    refine x_aload_n C d_M_best_38 0 rfl ?_
    refine x_get C d_M_best_39 f_M_rowLong wd970 rfl rfl ?_
    refine x_icmp_ge C d_M_best_42 hf (fun hf => ?_) (fun hf => ?_)
    · refine x_aload_n C d_M_best_45 0 rfl ?_
      refine x_aload_n C d_M_best_46 0 rfl ?_
      refine x_iload_n C d_M_best_47 3 rfl ?_
      refine x_cvr C d_M_best_48 wd1226 cm_M_ahead rfl rfl [.int v39] rfl rfl (by decide) (Nat.le_of_ble_eq_true rfl) hf (fun _ h => m_M_ahead h) (fun v40 hf hb_v40 => ?_)
      refine x_aload_n C d_M_best_51 0 rfl ?_
      refine x_getr C d_M_best_52 f_M_words wd971 rfl rfl ?_
      refine x_iload_n C d_M_best_55 3 rfl ?_
      refine x_iald C d_M_best_56 rfl hf (fun hf => ?_)
      refine x_aload_n C d_M_best_57 0 rfl ?_
      refine x_get C d_M_best_58 f_M_wires wd966 rfl rfl ?_
      refine x_iconst C d_M_best_61 0 ?_
      refine x_iconst C d_M_best_62 0 ?_
      refine x_cvv C d_M_best_63 wd1168 cm_M_moves rfl rfl [.int v40, .int (S37.1 1 (Int32.toNatClampNeg v39)), .int (S37.1 0 0), .int 0, .int 0] rfl rfl (by decide) (Nat.le_of_ble_eq_true rfl) hf (fun _ h => m_M_moves h) (fun S41 hf => ?_)
      refine x_iload_n C d_M_best_66 2 rfl ?_
      refine x_aload_n C d_M_best_67 0 rfl ?_
      refine x_cvr C d_M_best_68 wd1184 cm_M_movedNow rfl rfl [] rfl rfl (by decide) (Nat.le_of_ble_eq_true rfl) hf (fun _ h => m_M_movedNow h) (fun v42 hf hb_v42 => ?_)
      refine x_iadd C d_M_best_71 ?_
      refine x_bi hf (fun v43 hf => ?_)
      refine x_istore_n C d_M_best_72 [(2, .int v43), (0, .ref (w.1 0)), (1, .int p1), (3, .int v39)] (by rw [hnL]; decide) rfl ?_
      refine x_iconst C d_M_best_73 0 ?_
      refine x_istore C d_M_best_74 [(4, .int 0), (2, .int v43), (0, .ref (w.1 0)), (1, .int p1), (3, .int v39)] (by rw [hnL]; decide) rfl ?_
      refine x_sub [2, 3, 1, 4, 0] rfl ?_
      refine w_M_best_L76 hnL C hR (fun S45 hf => ?_) F S41 0 hf
      refine x_iinc C 1 d_M_best_156 3 rfl (by rw [hnL]; decide) hf (fun v46 => [(3, .int v46), (0, .ref (w.1 0)), (1, .int p1), (2, .int v43)]) (fun _ => rfl) (fun v46 hf => ?_)
      refine x_goto C d_M_best_159 ?_
      refine x_sub [1, 2, 3, 0] rfl ?_
      exact ih S45 v43 v46 hf
    refine x_sub [0, 1, 2] rfl ?_
    exact hk4 S37 v38 hf
set_option maxRecDepth 4000 in
theorem w_M_best_L16 {w : Ww} {l0 : Launch} {x : Cx} {F : Nat} {p1 : Int32} {rs : (Int32 × St)} {k2 : St → Option (Int32 × St)} (hnL : x.2.2.2.2.2.2.2.2.2.2.2.2 = 8) (C : XC shM w "NeighbourWiresModel" b_M_best l0 2 x) (hR : RI shM w b_M_best bzT rs x)  (hk2 : ∀ (S3 : St), k2 S3 = some rs → WX shM w x S3 35 [(0, .ref (w.1 0)), (1, .int p1), (2, .int 0)] []) : ∀ (n : Nat) (S56 : St) (v57 : Int32), M_best_L16 F p1 k2 n S56 v57 = some rs → WX shM w x S56 16 [(0, .ref (w.1 0)), (1, .int p1), (2, .int 0), (3, .int v57)] [] := by
  intro n
  induction n with
  | zero => intro S56 v57 hf; cases hf
  | succ n ih =>
    intro S56 v57 hf
    rw [M_best_L16] at hf
    refine x_iload_n C d_M_best_16 3 rfl ?_
    refine x_bipush C d_M_best_17 64 ?_
    refine x_icmp_ge C d_M_best_19 hf (fun hf => ?_) (fun hf => ?_)
    · refine x_aload_n C d_M_best_22 0 rfl ?_
      refine x_getr C d_M_best_23 f_M_beside wd992 rfl rfl ?_
      refine x_iload_n C d_M_best_26 3 rfl ?_
      refine x_iconst C d_M_best_27 0 ?_
      refine x_iast C d_M_best_28 rfl hf (fun S58 hf => ?_)
      refine x_iinc C 1 d_M_best_29 3 rfl (by rw [hnL]; decide) hf (fun v59 => [(3, .int v59), (0, .ref (w.1 0)), (1, .int p1), (2, .int 0)]) (fun _ => rfl) (fun v59 hf => ?_)
      refine x_goto C d_M_best_32 ?_
      refine x_sub [1, 2, 3, 0] rfl ?_
      exact ih S58 v59 hf
    refine x_sub [0, 1, 2] rfl ?_
    exact hk2 S56 hf
set_option maxRecDepth 4000 in
theorem m_M_best {w : Ww} {l0 : Launch} {F : Nat} {S : St} {p1 : Int32} {r : Int32} {S9 : St}  (hf : M_best F S p1 = some (r, S9)) : MI shM w l0 y_M_best b_M_best 8 .int 2 [.ref (w.1 0), .int p1] S r S9 bzT := by
  refine MI.of (by decide) (Nat.le_of_ble_eq_true rfl) rfl (fun _ _ => rfl) (fun x hnL C hR => ?_)
  rw [M_best] at hf
  refine x_iload_n C d_M_best_0 1 rfl ?_
  refine x_i2l C d_M_best_1 ?_
  refine x_lconst C d_M_best_2 0 ?_
  refine x_lconst C d_M_best_3 1 ?_
  refine x_csr C d_M_best_4 wd1088 cm_M_in [.long (Int32.toInt64 p1), .long 0, .long 1] rfl rfl (by decide) (Nat.le_of_ble_eq_true rfl) hf (fun _ h => m_M_in h) (fun v1 hf hb_v1 => ?_)
  refine x_if_ne C d_M_best_7 hf (fun hf => ?_) (fun hf => ?_)
  · refine x_iconst C d_M_best_10 (-1) ?_
    exact hR _ _ _ _ d_M_best_11.1 hf trivial
  refine x_iconst C d_M_best_12 0 ?_
  refine x_istore_n C d_M_best_13 [(2, .int 0), (0, .ref (w.1 0)), (1, .int p1)] (by rw [hnL]; decide) rfl ?_
  refine x_iconst C d_M_best_14 0 ?_
  refine x_istore_n C d_M_best_15 [(3, .int 0), (2, .int 0), (0, .ref (w.1 0)), (1, .int p1)] (by rw [hnL]; decide) rfl ?_
  refine x_sub [2, 3, 1, 0] rfl ?_
  refine w_M_best_L16 hnL C hR (fun S3 hf => ?_) F S 0 hf
  refine x_iconst C d_M_best_35 0 ?_
  refine x_istore_n C d_M_best_36 [(3, .int 0), (0, .ref (w.1 0)), (1, .int p1), (2, .int 0)] (by rw [hnL]; decide) rfl ?_
  refine x_sub [1, 2, 3, 0] rfl ?_
  refine w_M_best_L37 hnL C hR (fun S5 v6 hf => ?_) F S3 0 0 hf
  refine x_iconst C d_M_best_162 0 ?_
  refine x_istore_n C d_M_best_163 [(3, .int 0), (0, .ref (w.1 0)), (1, .int p1), (2, .int v6)] (by rw [hnL]; decide) rfl ?_
  refine x_sub [1, 2, 3, 0] rfl ?_
  refine w_M_best_L164 hnL C hR (fun S8 hf => ?_) F S5 0 hf
  refine x_ldc C d_M_best_185 wd1234 ?_
  refine x_istore_n C d_M_best_187 [(3, .int 100000000), (0, .ref (w.1 0)), (1, .int p1), (2, .int v6)] (by rw [hnL]; decide) rfl ?_
  refine x_iconst C d_M_best_188 0 ?_
  refine x_istore C d_M_best_189 [(4, .int 0), (3, .int 100000000), (0, .ref (w.1 0)), (1, .int p1), (2, .int v6)] (by rw [hnL]; decide) rfl ?_
  refine x_iconst C d_M_best_191 1 ?_
  refine x_istore C d_M_best_192 [(5, .int 1), (4, .int 0), (3, .int 100000000), (0, .ref (w.1 0)), (1, .int p1), (2, .int v6)] (by rw [hnL]; decide) rfl ?_
  refine x_sub [3, 4, 5, 2, 1, 0] rfl ?_
  refine w_M_best_L194 hnL C hR (fun S10 v11 v12 hf => ?_) F S8 100000000 0 1 hf
  refine x_iload_n C d_M_best_316 1 rfl ?_
  refine x_if_ne C d_M_best_317 hf (fun hf => ?_) (fun hf => ?_)
  · refine x_aload_n C d_M_best_320 0 rfl ?_
    refine x_get C d_M_best_321 f_M_own wd967 rfl rfl ?_
    refine x_iload_n C d_M_best_324 2 rfl ?_
    refine x_imul C d_M_best_325 ?_
    refine x_iload_n C d_M_best_326 3 rfl ?_
    refine x_iadd C d_M_best_327 ?_
    refine x_goto C d_M_best_328 ?_
    exact hR _ _ _ _ d_M_best_333.1 hf trivial
  refine x_iload C d_M_best_331 4 rfl ?_
  exact hR _ _ _ _ d_M_best_333.1 hf trivial
set_option maxRecDepth 4000 in
theorem w_M_shields_L71 {w : Ww} {l0 : Launch} {x : Cx} {F : Nat} {p1 : Int32} {p2 : Int32} {v8 : Int32} {v9 : Int32} {rs : (Int32 × St)} {k12 : St → Int32 → Option (Int32 × St)} (hnL : x.2.2.2.2.2.2.2.2.2.2.2.2 = 7) (C : XC shM w "NeighbourWiresModel" b_M_shields l0 3 x) (hR : RI shM w b_M_shields bzT rs x)  (hk12 : ∀ (S13 : St) (v14 : Int32), k12 S13 v14 = some rs → WX shM w x S13 130 [(0, .ref (w.1 0)), (1, .int p1), (2, .int p2), (3, .int v8), (4, .int v9), (5, .int v14)] []) : ∀ (n : Nat) (S18 : St) (v19 : Int32) (v20 : Int32), M_shields_L71 F p1 p2 v8 v9 k12 n S18 v19 v20 = some rs → WX shM w x S18 71 [(0, .ref (w.1 0)), (1, .int p1), (2, .int p2), (3, .int v8), (4, .int v9), (5, .int v19), (6, .int v20)] [] := by
  intro n
  induction n with
  | zero => intro S18 v19 v20 hf; cases hf
  | succ n ih =>
    intro S18 v19 v20 hf
    rw [M_shields_L71] at hf
    refine x_iload C d_M_shields_71 6 rfl ?_
    refine x_aload_n C d_M_shields_73 0 rfl ?_
    refine x_get C d_M_shields_74 f_M_rowLong wd970 rfl rfl ?_
    refine x_icmp_ge C d_M_shields_77 hf (fun hf => ?_) (fun hf => ?_)
    · refine x_iload C d_M_shields_80 5 rfl ?_
      refine x_if_eq C d_M_shields_82 hf (fun hf => ?_) (fun hf => ?_)
      · refine x_sub [0, 1, 2, 3, 4, 5] rfl ?_
        exact hk12 S18 v19 hf
      refine x_aload_n C d_M_shields_85 0 rfl ?_
      refine x_aload_n C d_M_shields_86 0 rfl ?_
      refine x_iload C d_M_shields_87 6 rfl ?_
      refine x_cvr C d_M_shields_89 wd1226 cm_M_ahead rfl rfl [.int v20] rfl rfl (by decide) (Nat.le_of_ble_eq_true rfl) hf (fun _ h => m_M_ahead h) (fun v21 hf hb_v21 => ?_)
      refine x_aload_n C d_M_shields_92 0 rfl ?_
      refine x_getr C d_M_shields_93 f_M_words wd971 rfl rfl ?_
      refine x_iload C d_M_shields_96 6 rfl ?_
      refine x_iald C d_M_shields_98 rfl hf (fun hf => ?_)
      refine x_aload_n C d_M_shields_99 0 rfl ?_
      refine x_get C d_M_shields_100 f_M_wires wd966 rfl rfl ?_
      refine x_iconst C d_M_shields_103 1 ?_
      refine x_iload C d_M_shields_104 4 rfl ?_
      refine x_cvv C d_M_shields_106 wd1168 cm_M_moves rfl rfl [.int v21, .int (S18.1 1 (Int32.toNatClampNeg v20)), .int (S18.1 0 0), .int 1, .int v9] rfl rfl (by decide) (Nat.le_of_ble_eq_true rfl) hf (fun _ h => m_M_moves h) (fun S22 hf => ?_)
      refine x_aload_n C d_M_shields_109 0 rfl ?_
      refine x_cvr C d_M_shields_110 wd1188 cm_M_slowNow rfl rfl [] rfl rfl (by decide) (Nat.le_of_ble_eq_true rfl) hf (fun _ h => m_M_slowNow h) (fun v23 hf hb_v23 => ?_)
      refine x_iload_n C d_M_shields_113 1 rfl ?_
      refine x_jn (fun J25 => ∀ (v24 : Int32), J25 v24 = some rs → WX shM w x S22 122 [(0, .ref (w.1 0)), (1, .int p1), (2, .int p2), (3, .int v8), (4, .int v9), (6, .int v20)] [.int v24]) hf (fun v24 hf => ?_) (fun J25 hJ25 hf => ?_)
      · refine x_istore C d_M_shields_122 [(5, .int v24), (0, .ref (w.1 0)), (1, .int p1), (2, .int p2), (3, .int v8), (4, .int v9), (6, .int v20)] (by rw [hnL]; decide) rfl ?_
        refine x_iinc C 1 d_M_shields_124 6 rfl (by rw [hnL]; decide) hf (fun v26 => [(6, .int v26), (5, .int v24), (0, .ref (w.1 0)), (1, .int p1), (2, .int p2), (3, .int v8), (4, .int v9)]) (fun _ => rfl) (fun v26 hf => ?_)
        refine x_goto C d_M_shields_127 ?_
        refine x_sub [2, 3, 4, 5, 6, 1, 0] rfl ?_
        exact ih S22 v24 v26 hf
      refine x_icmp_gt C d_M_shields_114 hf (fun hf => ?_) (fun hf => ?_)
      · refine x_iconst C d_M_shields_121 0 ?_
        refine x_sub [0, 1, 2, 3, 4, 6] rfl ?_
        exact hJ25 0 hf
      refine x_iconst C d_M_shields_117 1 ?_
      refine x_goto C d_M_shields_118 ?_
      refine x_sub [0, 1, 2, 3, 4, 6] rfl ?_
      exact hJ25 1 hf
    refine x_sub [0, 1, 2, 3, 4, 5] rfl ?_
    exact hk12 S18 v19 hf
set_option maxRecDepth 4000 in
theorem w_M_shields_L30 {w : Ww} {l0 : Launch} {x : Cx} {F : Nat} {p1 : Int32} {p2 : Int32} {rs : (Int32 × St)} {k3 : St → Int32 → Option (Int32 × St)} (hnL : x.2.2.2.2.2.2.2.2.2.2.2.2 = 7) (C : XC shM w "NeighbourWiresModel" b_M_shields l0 3 x) (hR : RI shM w b_M_shields bzT rs x)  (hk3 : ∀ (S4 : St) (v5 : Int32), k3 S4 v5 = some rs → WX shM w x S4 148 [(2, .int p2), (3, .int v5)] []) : ∀ (n : Nat) (S7 : St) (v8 : Int32) (v9 : Int32), M_shields_L30 F p1 p2 k3 n S7 v8 v9 = some rs → WX shM w x S7 30 [(0, .ref (w.1 0)), (1, .int p1), (2, .int p2), (3, .int v8), (4, .int v9)] [] := by
  intro n
  induction n with
  | zero => intro S7 v8 v9 hf; cases hf
  | succ n ih =>
    intro S7 v8 v9 hf
    rw [M_shields_L30] at hf
    refine x_iload C d_M_shields_30 4 rfl ?_
    refine x_iconst C d_M_shields_32 1 ?_
    refine x_aload_n C d_M_shields_33 0 rfl ?_
    refine x_get C d_M_shields_34 f_M_wires wd966 rfl rfl ?_
    refine x_iconst C d_M_shields_37 1 ?_
    refine x_isub C d_M_shields_38 ?_
    refine x_ishl C d_M_shields_39 ?_
    refine x_icmp_ge C d_M_shields_40 hf (fun hf => ?_) (fun hf => ?_)
    · refine x_iload_n C d_M_shields_43 3 rfl ?_
      refine x_bipush C d_M_shields_44 (-4) ?_
      refine x_jn (fun J11 => ∀ (v10 : Int32), J11 v10 = some rs → WX shM w x S7 66 [(0, .ref (w.1 0)), (1, .int p1), (2, .int p2), (3, .int v8), (4, .int v9)] [.int v10]) hf (fun v10 hf => ?_) (fun J11 hJ11 hf => ?_)
      · refine x_istore C d_M_shields_66 [(5, .int v10), (0, .ref (w.1 0)), (1, .int p1), (2, .int p2), (3, .int v8), (4, .int v9)] (by rw [hnL]; decide) rfl ?_
        refine x_iconst C d_M_shields_68 0 ?_
        refine x_istore C d_M_shields_69 [(6, .int 0), (5, .int v10), (0, .ref (w.1 0)), (1, .int p1), (2, .int p2), (3, .int v8), (4, .int v9)] (by rw [hnL]; decide) rfl ?_
        refine x_sub [2, 3, 4, 5, 6, 1, 0] rfl ?_
        refine w_M_shields_L71 hnL C hR (fun S13 v14 hf => ?_) F S7 v10 0 hf
        refine x_iload C d_M_shields_130 5 rfl ?_
        refine x_jn (fun J16 => ∀ (v15 : Int32), J16 v15 = some rs → WX shM w x S13 141 [(0, .ref (w.1 0)), (1, .int p1), (2, .int p2), (4, .int v9)] [.int v15]) hf (fun v15 hf => ?_) (fun J16 hJ16 hf => ?_)
        · refine x_istore_n C d_M_shields_141 [(3, .int v15), (0, .ref (w.1 0)), (1, .int p1), (2, .int p2), (4, .int v9)] (by rw [hnL]; decide) rfl ?_
          refine x_iinc C 1 d_M_shields_142 4 rfl (by rw [hnL]; decide) hf (fun v17 => [(4, .int v17), (3, .int v15), (0, .ref (w.1 0)), (1, .int p1), (2, .int p2)]) (fun _ => rfl) (fun v17 hf => ?_)
          refine x_goto C d_M_shields_145 ?_
          refine x_sub [2, 3, 4, 1, 0] rfl ?_
          exact ih S13 v15 v17 hf
        refine x_if_eq C d_M_shields_132 hf (fun hf => ?_) (fun hf => ?_)
        · refine x_iload_n C d_M_shields_140 3 rfl ?_
          refine x_sub [0, 1, 2, 4] rfl ?_
          exact hJ16 v8 hf
        refine x_iload C d_M_shields_135 4 rfl ?_
        refine x_goto C d_M_shields_137 ?_
        refine x_sub [0, 1, 2, 4] rfl ?_
        exact hJ16 v9 hf
      refine x_jn (fun J27 => J27  = some rs → WX shM w x S7 61 [(0, .ref (w.1 0)), (1, .int p1), (2, .int p2), (3, .int v8), (4, .int v9)] []) hf (fun hf => ?_) (fun J27 hJ27 hf => ?_)
      · refine x_iconst C d_M_shields_61 1 ?_
        refine x_goto C d_M_shields_62 ?_
        exact hJ11 1 hf
      refine x_icmp_eq C d_M_shields_46 hf (fun hf => ?_) (fun hf => ?_)
      · exact hJ27  hf
      refine x_iload C d_M_shields_49 4 rfl ?_
      refine x_csr C d_M_shields_51 wd1247 cm_M_countOf [.int v9] rfl rfl (by decide) (Nat.le_of_ble_eq_true rfl) hf (fun _ h => m_M_countOf h) (fun v28 hf hb_v28 => ?_)
      refine x_iload_n C d_M_shields_54 3 rfl ?_
      refine x_csr C d_M_shields_55 wd1247 cm_M_countOf [.int v8] rfl rfl (by decide) (Nat.le_of_ble_eq_true rfl) hf (fun _ h => m_M_countOf h) (fun v29 hf hb_v29 => ?_)
      refine x_icmp_ge C d_M_shields_58 hf (fun hf => ?_) (fun hf => ?_)
      · exact hJ27  hf
      refine x_iconst C d_M_shields_65 0 ?_
      exact hJ11 0 hf
    refine x_sub [2, 3] rfl ?_
    exact hk3 S7 v8 hf
set_option maxRecDepth 4000 in
theorem m_M_shields {w : Ww} {l0 : Launch} {F : Nat} {S : St} {p1 : Int32} {p2 : Int32} {r : Int32} {S9 : St}  (hf : M_shields F S p1 p2 = some (r, S9)) : MI shM w l0 y_M_shields b_M_shields 7 .int 3 [.ref (w.1 0), .int p1, .int p2] S r S9 bzT := by
  refine MI.of (by decide) (Nat.le_of_ble_eq_true rfl) rfl (fun _ _ => rfl) (fun x hnL C hR => ?_)
  rw [M_shields] at hf
  refine x_iload_n C d_M_shields_0 1 rfl ?_
  refine x_i2l C d_M_shields_1 ?_
  refine x_lconst C d_M_shields_2 0 ?_
  refine x_ldc2 C d_M_shields_3 wd1223 ?_
  refine x_csr C d_M_shields_6 wd1088 cm_M_in [.long (Int32.toInt64 p1), .long 0, .long 4] rfl rfl (by decide) (Nat.le_of_ble_eq_true rfl) hf (fun _ h => m_M_in h) (fun v1 hf hb_v1 => ?_)
  refine x_if_eq C d_M_shields_9 hf (fun hf => ?_) (fun hf => ?_)
  · refine x_iconst C d_M_shields_22 (-1) ?_
    exact hR _ _ _ _ d_M_shields_23.1 hf trivial
  refine x_iload_n C d_M_shields_12 2 rfl ?_
  refine x_i2l C d_M_shields_13 ?_
  refine x_lconst C d_M_shields_14 0 ?_
  refine x_lconst C d_M_shields_15 1 ?_
  refine x_csr C d_M_shields_16 wd1088 cm_M_in [.long (Int32.toInt64 p2), .long 0, .long 1] rfl rfl (by decide) (Nat.le_of_ble_eq_true rfl) hf (fun _ h => m_M_in h) (fun v2 hf hb_v2 => ?_)
  refine x_if_ne C d_M_shields_19 hf (fun hf => ?_) (fun hf => ?_)
  · refine x_iconst C d_M_shields_22 (-1) ?_
    exact hR _ _ _ _ d_M_shields_23.1 hf trivial
  refine x_bipush C d_M_shields_24 (-4) ?_
  refine x_istore_n C d_M_shields_26 [(3, .int (-4)), (0, .ref (w.1 0)), (1, .int p1), (2, .int p2)] (by rw [hnL]; decide) rfl ?_
  refine x_iconst C d_M_shields_27 0 ?_
  refine x_istore C d_M_shields_28 [(4, .int 0), (3, .int (-4)), (0, .ref (w.1 0)), (1, .int p1), (2, .int p2)] (by rw [hnL]; decide) rfl ?_
  refine x_sub [2, 3, 4, 1, 0] rfl ?_
  refine w_M_shields_L30 hnL C hR (fun S4 v5 hf => ?_) F S (-4) 0 hf
  refine x_iload_n C d_M_shields_148 1 rfl ?_
  refine x_bipush C d_M_shields_149 (-4) ?_
  refine x_icmp_ne C d_M_shields_151 hf (fun hf => ?_) (fun hf => ?_)
  · refine x_bipush C d_M_shields_154 (-4) ?_
    refine x_goto C d_M_shields_156 ?_
    exact hR _ _ _ _ d_M_shields_171.1 hf trivial
  refine x_iload_n C d_M_shields_159 0 rfl ?_
  refine x_if_ne C d_M_shields_160 hf (fun hf => ?_) (fun hf => ?_)
  · refine x_iload_n C d_M_shields_163 1 rfl ?_
    refine x_csr C d_M_shields_164 wd1247 cm_M_countOf [.int v5] rfl rfl (by decide) (Nat.le_of_ble_eq_true rfl) hf (fun _ h => m_M_countOf h) (fun v6 hf hb_v6 => ?_)
    refine x_goto C d_M_shields_167 ?_
    exact hR _ _ _ _ d_M_shields_171.1 hf trivial
  refine x_iload_n C d_M_shields_170 1 rfl ?_
  exact hR _ _ _ _ d_M_shields_171.1 hf trivial
set_option maxRecDepth 4000 in
theorem m_M_lying {w : Ww} {l0 : Launch} {F : Nat} {S : St} {p1 : Int32} {p2 : Int32} {rs : Int32}  (hf : M_lying F S p1 p2 = some rs) : MI shM w l0 y_M_lying b_M_lying 4 .int 0 [.ref (w.1 0), .int p1, .int p2] S rs S bzT := by
  refine MI.of (by decide) (Nat.le_of_ble_eq_true rfl) rfl (fun _ _ => rfl) (fun x hnL C hR => ?_)
  rw [M_lying] at hf
  refine x_iconst C d_M_lying_0 1 ?_
  refine x_aload_n C d_M_lying_1 0 rfl ?_
  refine x_get C d_M_lying_2 f_M_wires wd966 rfl rfl ?_
  refine x_ishl C d_M_lying_5 ?_
  refine x_iconst C d_M_lying_6 1 ?_
  refine x_isub C d_M_lying_7 ?_
  refine x_bi hf (fun v1 hf => ?_)
  refine x_istore_n C d_M_lying_8 [(3, .int v1), (0, .ref (w.1 0)), (1, .int p1), (2, .int p2)] (by rw [hnL]; decide) rfl ?_
  refine x_iload_n C d_M_lying_9 3 rfl ?_
  refine x_iconst C d_M_lying_10 1 ?_
  refine x_icmp_ne C d_M_lying_11 hf (fun hf => ?_) (fun hf => ?_)
  · refine x_iload_n C d_M_lying_14 2 rfl ?_
    refine x_iload_n C d_M_lying_15 0 rfl ?_
    refine x_ixor C d_M_lying_16 ?_
    refine x_iconst C d_M_lying_17 1 ?_
    refine x_aload_n C d_M_lying_18 1 rfl ?_
    refine x_get C d_M_lying_19 f_M_wires wd966 rfl rfl ?_
    refine x_ishl C d_M_lying_22 ?_
    refine x_ior C d_M_lying_23 ?_
    refine x_goto C d_M_lying_24 ?_
    exact x_retR hR d_M_lying_28 hf trivial
  refine x_iload_n C d_M_lying_27 2 rfl ?_
  exact x_retR hR d_M_lying_28 hf trivial
set_option maxRecDepth 4000 in
theorem m_M_widerMoves {w : Ww} {l0 : Launch} {F : Nat} {S : St} {p1 : Int32} {p2 : Int32} {rs : St}  (hf : M_widerMoves F S p1 p2 = some rs) : MV shM w l0 y_M_widerMoves b_M_widerMoves 3 1 [.ref (w.1 0), .int p1, .int p2] S rs := by
  refine MV.of (by decide) (Nat.le_of_ble_eq_true rfl) rfl (fun x hnL C hR => ?_)
  rw [M_widerMoves] at hf
  refine x_aload_n C d_M_widerMoves_0 0 rfl ?_
  refine x_iload_n C d_M_widerMoves_1 1 rfl ?_
  refine x_iload_n C d_M_widerMoves_2 2 rfl ?_
  refine x_aload_n C d_M_widerMoves_3 0 rfl ?_
  refine x_get C d_M_widerMoves_4 f_M_wires wd966 rfl rfl ?_
  refine x_iconst C d_M_widerMoves_7 1 ?_
  refine x_iadd C d_M_widerMoves_8 ?_
  refine x_iconst C d_M_widerMoves_9 1 ?_
  refine x_aload_n C d_M_widerMoves_10 0 rfl ?_
  refine x_get C d_M_widerMoves_11 f_M_shields wd969 rfl rfl ?_
  refine x_cvv C d_M_widerMoves_14 wd1168 cm_M_moves rfl rfl [.int p1, .int p2, .int ((S.1 0 0) + 1), .int 1, .int (S.1 0 3)] rfl rfl (by decide) (Nat.le_of_ble_eq_true rfl) hf (fun _ h => m_M_moves h) (fun S1 hf => ?_)
  exact hR _ _ _ d_M_widerMoves_17.1 hf
set_option maxRecDepth 4000 in
theorem m_M_widerCost {w : Ww} {l0 : Launch} {F : Nat} {S : St} {p1 : Int32} {p2 : Int32} {r : Int32} {S9 : St}  (hf : M_widerCost F S p1 p2 = some (r, S9)) : MI shM w l0 y_M_widerCost b_M_widerCost 3 .int 2 [.ref (w.1 0), .int p1, .int p2] S r S9 bzT := by
  refine MI.of (by decide) (Nat.le_of_ble_eq_true rfl) rfl (fun _ _ => rfl) (fun x hnL C hR => ?_)
  rw [M_widerCost] at hf
  refine x_aload_n C d_M_widerCost_0 0 rfl ?_
  refine x_iload_n C d_M_widerCost_1 1 rfl ?_
  refine x_iload_n C d_M_widerCost_2 2 rfl ?_
  refine x_cvv C d_M_widerCost_3 wd1266 cm_M_widerMoves rfl rfl [.int p1, .int p2] rfl rfl (by decide) (Nat.le_of_ble_eq_true rfl) hf (fun _ h => m_M_widerMoves h) (fun S1 hf => ?_)
  refine x_aload_n C d_M_widerCost_6 0 rfl ?_
  refine x_cvr C d_M_widerCost_7 wd1176 cm_M_costNow rfl rfl [] rfl rfl (by decide) (Nat.le_of_ble_eq_true rfl) hf (fun _ h => m_M_costNow h) (fun v2 hf hb_v2 => ?_)
  exact hR _ _ _ _ d_M_widerCost_10.1 hf trivial
set_option maxRecDepth 4000 in
theorem w_M_findToCome_L62 {w : Ww} {l0 : Launch} {x : Cx} {F : Nat} {v6 : Int32} {rs : St} {k7 : St → Option St} (hnL : x.2.2.2.2.2.2.2.2.2.2.2.2 = 6) (C : XC shM w "NeighbourWiresModel" b_M_findToCome l0 3 x) (hR : RV shM w b_M_findToCome rs x)  (hk7 : ∀ (S8 : St), k7 S8 = some rs → WX shM w x S8 171 [(0, .ref (w.1 0)), (1, .int v6)] []) : ∀ (n : Nat) (S10 : St) (v11 : Int32), M_findToCome_L62 F v6 k7 n S10 v11 = some rs → WX shM w x S10 62 [(0, .ref (w.1 0)), (1, .int v6), (2, .int v11)] [] := by
  intro n
  induction n with
  | zero => intro S10 v11 hf; cases hf
  | succ n ih =>
    intro S10 v11 hf
    rw [M_findToCome_L62] at hf
    refine x_iload_n C d_M_findToCome_62 2 rfl ?_
    refine x_iconst C d_M_findToCome_63 2 ?_
    refine x_icmp_ge C d_M_findToCome_64 hf (fun hf => ?_) (fun hf => ?_)
    · refine x_aload_n C d_M_findToCome_67 0 rfl ?_
      refine x_aload_n C d_M_findToCome_68 0 rfl ?_
      refine x_getr C d_M_findToCome_69 f_M_words wd971 rfl rfl ?_
      refine x_iload_n C d_M_findToCome_72 1 rfl ?_
      refine x_iald C d_M_findToCome_73 rfl hf (fun hf => ?_)
      refine x_iload_n C d_M_findToCome_74 2 rfl ?_
      refine x_cvr C d_M_findToCome_75 wd1258 cm_M_lying rfl rfl [.int (S10.1 1 (Int32.toNatClampNeg v6)), .int v11] rfl rfl (by decide) (Nat.le_of_ble_eq_true rfl) hf (fun _ h => m_M_lying h) (fun v12 hf hb_v12 => ?_)
      refine x_istore_n C d_M_findToCome_78 [(3, .int v12), (0, .ref (w.1 0)), (1, .int v6), (2, .int v11)] (by rw [hnL]; decide) rfl ?_
      refine x_aload_n C d_M_findToCome_79 1 rfl ?_
      refine x_iload_n C d_M_findToCome_80 0 rfl ?_
      refine x_aload_n C d_M_findToCome_81 1 rfl ?_
      refine x_aload_n C d_M_findToCome_82 1 rfl ?_
      refine x_getr C d_M_findToCome_83 f_M_words wd971 rfl rfl ?_
      refine x_iload_n C d_M_findToCome_86 2 rfl ?_
      refine x_iconst C d_M_findToCome_87 1 ?_
      refine x_iadd C d_M_findToCome_88 ?_
      refine x_iald C d_M_findToCome_89 rfl hf (fun hf => ?_)
      refine x_iconst C d_M_findToCome_90 0 ?_
      refine x_cvr C d_M_findToCome_91 wd1258 cm_M_lying rfl rfl [.int (S10.1 1 (Int32.toNatClampNeg (v6 + 1))), .int 0] rfl rfl (by decide) (Nat.le_of_ble_eq_true rfl) hf (fun _ h => m_M_lying h) (fun v13 hf hb_v13 => ?_)
      refine x_cvi C d_M_findToCome_94 wd1262 cm_M_widerCost rfl rfl [.int v12, .int v13] rfl rfl (by decide) (Nat.le_of_ble_eq_true rfl) hf (fun _ _ h => m_M_widerCost h) (fun v14 S15 hf hb_v14 => ?_)
      refine x_aload_n C d_M_findToCome_97 1 rfl ?_
      refine x_getr C d_M_findToCome_98 f_M_toCome wd994 rfl rfl ?_
      refine x_iconst C d_M_findToCome_101 2 ?_
      refine x_iload_n C d_M_findToCome_102 2 rfl ?_
      refine x_imul C d_M_findToCome_103 ?_
      refine x_iconst C d_M_findToCome_104 2 ?_
      refine x_iadd C d_M_findToCome_105 ?_
      refine x_iald C d_M_findToCome_106 rfl hf (fun hf => ?_)
      refine x_iadd C d_M_findToCome_107 ?_
      refine x_bi hf (fun v16 hf => ?_)
      refine x_istore C d_M_findToCome_108 [(4, .int v16), (3, .int v12), (0, .ref (w.1 0)), (1, .int v6), (2, .int v11)] (by rw [hnL]; decide) rfl ?_
      refine x_aload_n C d_M_findToCome_110 2 rfl ?_
      refine x_iload_n C d_M_findToCome_111 1 rfl ?_
      refine x_aload_n C d_M_findToCome_112 2 rfl ?_
      refine x_aload_n C d_M_findToCome_113 2 rfl ?_
      refine x_getr C d_M_findToCome_114 f_M_words wd971 rfl rfl ?_
      refine x_iload_n C d_M_findToCome_117 3 rfl ?_
      refine x_iconst C d_M_findToCome_118 1 ?_
      refine x_iadd C d_M_findToCome_119 ?_
      refine x_iald C d_M_findToCome_120 rfl hf (fun hf => ?_)
      refine x_iconst C d_M_findToCome_121 1 ?_
      refine x_cvr C d_M_findToCome_122 wd1258 cm_M_lying rfl rfl [.int (S15.1 1 (Int32.toNatClampNeg (v6 + 1))), .int 1] rfl rfl (by decide) (Nat.le_of_ble_eq_true rfl) hf (fun _ h => m_M_lying h) (fun v17 hf hb_v17 => ?_)
      refine x_cvi C d_M_findToCome_125 wd1262 cm_M_widerCost rfl rfl [.int v12, .int v17] rfl rfl (by decide) (Nat.le_of_ble_eq_true rfl) hf (fun _ _ h => m_M_widerCost h) (fun v18 S19 hf hb_v18 => ?_)
      refine x_aload_n C d_M_findToCome_128 2 rfl ?_
      refine x_getr C d_M_findToCome_129 f_M_toCome wd994 rfl rfl ?_
      refine x_iconst C d_M_findToCome_132 2 ?_
      refine x_iload_n C d_M_findToCome_133 3 rfl ?_
      refine x_imul C d_M_findToCome_134 ?_
      refine x_iconst C d_M_findToCome_135 3 ?_
      refine x_iadd C d_M_findToCome_136 ?_
      refine x_iald C d_M_findToCome_137 rfl hf (fun hf => ?_)
      refine x_iadd C d_M_findToCome_138 ?_
      refine x_bi hf (fun v20 hf => ?_)
      refine x_istore C d_M_findToCome_139 [(5, .int v20), (4, .int v16), (3, .int v12), (0, .ref (w.1 0)), (1, .int v6), (2, .int v11)] (by rw [hnL]; decide) rfl ?_
      refine x_aload_n C d_M_findToCome_141 3 rfl ?_
      refine x_getr C d_M_findToCome_142 f_M_toCome wd994 rfl rfl ?_
      refine x_iconst C d_M_findToCome_145 2 ?_
      refine x_iload_n C d_M_findToCome_146 4 rfl ?_
      refine x_imul C d_M_findToCome_147 ?_
      refine x_iload_n C d_M_findToCome_148 5 rfl ?_
      refine x_iadd C d_M_findToCome_149 ?_
      refine x_iload C d_M_findToCome_150 1 rfl ?_
      refine x_iload C d_M_findToCome_152 0 rfl ?_
      refine x_jn (fun J22 => ∀ (v21 : Int32), J22 v21 = some rs → WX shM w x S19 164 [(0, .ref (w.1 0)), (1, .int v6), (2, .int v11)] [.int v21, .int ((2 * v6) + v11), .ref (w.1 10)]) hf (fun v21 hf => ?_) (fun J22 hJ22 hf => ?_)
      · refine x_iast C d_M_findToCome_164 rfl hf (fun S23 hf => ?_)
        refine x_iinc C 1 d_M_findToCome_165 2 rfl (by rw [hnL]; decide) hf (fun v24 => [(2, .int v24), (0, .ref (w.1 0)), (1, .int v6)]) (fun _ => rfl) (fun v24 hf => ?_)
        refine x_goto C d_M_findToCome_168 ?_
        refine x_sub [1, 2, 0] rfl ?_
        exact ih S23 v24 hf
      refine x_icmp_gt C d_M_findToCome_154 hf (fun hf => ?_) (fun hf => ?_)
      · refine x_iload C d_M_findToCome_162 0 rfl ?_
        refine x_sub [3, 4, 5] rfl ?_
        exact hJ22 v20 hf
      refine x_iload C d_M_findToCome_157 1 rfl ?_
      refine x_goto C d_M_findToCome_159 ?_
      refine x_sub [3, 4, 5] rfl ?_
      exact hJ22 v16 hf
    refine x_sub [0, 1] rfl ?_
    exact hk7 S10 hf
set_option maxRecDepth 4000 in
theorem w_M_findToCome_L56 {w : Ww} {l0 : Launch} {x : Cx} {F : Nat}  {rs : St}  (hnL : x.2.2.2.2.2.2.2.2.2.2.2.2 = 6) (C : XC shM w "NeighbourWiresModel" b_M_findToCome l0 3 x) (hR : RV shM w b_M_findToCome rs x)   : ∀ (n : Nat) (S5 : St) (v6 : Int32), M_findToCome_L56 F n S5 v6 = some rs → WX shM w x S5 56 [(0, .ref (w.1 0)), (1, .int v6)] [] := by
  intro n
  induction n with
  | zero => intro S5 v6 hf; cases hf
  | succ n ih =>
    intro S5 v6 hf
    rw [M_findToCome_L56] at hf
    refine x_iload_n C d_M_findToCome_56 1 rfl ?_
    refine x_if_lt C d_M_findToCome_57 hf (fun hf => ?_) (fun hf => ?_)
    · exact hR _ _ _ d_M_findToCome_177.1 hf
    refine x_iconst C d_M_findToCome_60 0 ?_
    refine x_istore_n C d_M_findToCome_61 [(2, .int 0), (0, .ref (w.1 0)), (1, .int v6)] (by rw [hnL]; decide) rfl ?_
    refine x_sub [1, 2, 0] rfl ?_
    refine w_M_findToCome_L62 hnL C hR (fun S8 hf => ?_) F S5 0 hf
    refine x_iinc C (-1) d_M_findToCome_171 1 rfl (by rw [hnL]; decide) hf (fun v9 => [(1, .int v9), (0, .ref (w.1 0))]) (fun _ => rfl) (fun v9 hf => ?_)
    refine x_goto C d_M_findToCome_174 ?_
    refine x_sub [1, 0] rfl ?_
    exact ih S8 v9 hf
set_option maxRecDepth 4000 in
theorem w_M_findToCome_L20 {w : Ww} {l0 : Launch} {x : Cx} {F : Nat} {v26 : Int32} {rs : St} {k28 : St → Option St} (hnL : x.2.2.2.2.2.2.2.2.2.2.2.2 = 6) (C : XC shM w "NeighbourWiresModel" b_M_findToCome l0 3 x) (hR : RV shM w b_M_findToCome rs x)  (hk28 : ∀ (S29 : St), k28 S29 = some rs → WX shM w x S29 43 [(0, .ref (w.1 0)), (1, .int v26)] []) : ∀ (n : Nat) (S31 : St) (v32 : Int32), M_findToCome_L20 F v26 k28 n S31 v32 = some rs → WX shM w x S31 20 [(0, .ref (w.1 0)), (1, .int v26), (2, .int v32)] [] := by
  intro n
  induction n with
  | zero => intro S31 v32 hf; cases hf
  | succ n ih =>
    intro S31 v32 hf
    rw [M_findToCome_L20] at hf
    refine x_iload_n C d_M_findToCome_20 2 rfl ?_
    refine x_bipush C d_M_findToCome_21 40 ?_
    refine x_icmp_gt C d_M_findToCome_23 hf (fun hf => ?_) (fun hf => ?_)
    · refine x_sub [0, 1] rfl ?_
      exact hk28 S31 hf
    refine x_aload_n C d_M_findToCome_26 0 rfl ?_
    refine x_getr C d_M_findToCome_27 f_M_toCome wd994 rfl rfl ?_
    refine x_iconst C d_M_findToCome_30 2 ?_
    refine x_iload_n C d_M_findToCome_31 2 rfl ?_
    refine x_imul C d_M_findToCome_32 ?_
    refine x_iload_n C d_M_findToCome_33 1 rfl ?_
    refine x_iadd C d_M_findToCome_34 ?_
    refine x_iconst C d_M_findToCome_35 0 ?_
    refine x_iast C d_M_findToCome_36 rfl hf (fun S33 hf => ?_)
    refine x_iinc C 1 d_M_findToCome_37 2 rfl (by rw [hnL]; decide) hf (fun v34 => [(2, .int v34), (0, .ref (w.1 0)), (1, .int v26)]) (fun _ => rfl) (fun v34 hf => ?_)
    refine x_goto C d_M_findToCome_40 ?_
    refine x_sub [1, 2, 0] rfl ?_
    exact ih S33 v34 hf
set_option maxRecDepth 4000 in
theorem w_M_findToCome_L10 {w : Ww} {l0 : Launch} {x : Cx} {F : Nat}  {rs : St} {k2 : St → Option St} (hnL : x.2.2.2.2.2.2.2.2.2.2.2.2 = 6) (C : XC shM w "NeighbourWiresModel" b_M_findToCome l0 3 x) (hR : RV shM w b_M_findToCome rs x)  (hk2 : ∀ (S3 : St), k2 S3 = some rs → WX shM w x S3 49 [(0, .ref (w.1 0))] []) : ∀ (n : Nat) (S25 : St) (v26 : Int32), M_findToCome_L10 F k2 n S25 v26 = some rs → WX shM w x S25 10 [(0, .ref (w.1 0)), (1, .int v26)] [] := by
  intro n
  induction n with
  | zero => intro S25 v26 hf; cases hf
  | succ n ih =>
    intro S25 v26 hf
    rw [M_findToCome_L10] at hf
    refine x_iload_n C d_M_findToCome_10 1 rfl ?_
    refine x_iconst C d_M_findToCome_11 2 ?_
    refine x_icmp_ge C d_M_findToCome_12 hf (fun hf => ?_) (fun hf => ?_)
    · refine x_aload_n C d_M_findToCome_15 0 rfl ?_
      refine x_get C d_M_findToCome_16 f_M_rowLong wd970 rfl rfl ?_
      refine x_bi hf (fun v27 hf => ?_)
      refine x_istore_n C d_M_findToCome_19 [(2, .int v27), (0, .ref (w.1 0)), (1, .int v26)] (by rw [hnL]; decide) rfl ?_
      refine x_sub [1, 2, 0] rfl ?_
      refine w_M_findToCome_L20 hnL C hR (fun S29 hf => ?_) F S25 v27 hf
      refine x_iinc C 1 d_M_findToCome_43 1 rfl (by rw [hnL]; decide) hf (fun v30 => [(1, .int v30), (0, .ref (w.1 0))]) (fun _ => rfl) (fun v30 hf => ?_)
      refine x_goto C d_M_findToCome_46 ?_
      refine x_sub [1, 0] rfl ?_
      exact ih S29 v30 hf
    refine x_sub [0] rfl ?_
    exact hk2 S25 hf
set_option maxRecDepth 4000 in
theorem m_M_findToCome {w : Ww} {l0 : Launch} {F : Nat} {S : St} {rs : St}  (hf : M_findToCome F S = some rs) : MV shM w l0 y_M_findToCome b_M_findToCome 6 3 [.ref (w.1 0)] S rs := by
  refine MV.of (by decide) (Nat.le_of_ble_eq_true rfl) rfl (fun x hnL C hR => ?_)
  rw [M_findToCome] at hf
  refine x_aload_n C d_M_findToCome_0 0 rfl ?_
  refine x_getr C d_M_findToCome_1 f_M_toCome wd994 rfl rfl ?_
  refine x_bipush C d_M_findToCome_4 80 ?_
  refine x_iconst C d_M_findToCome_6 0 ?_
  refine x_iast C d_M_findToCome_7 rfl hf (fun S1 hf => ?_)
  refine x_iconst C d_M_findToCome_8 0 ?_
  refine x_istore_n C d_M_findToCome_9 [(1, .int 0), (0, .ref (w.1 0))] (by rw [hnL]; decide) rfl ?_
  refine x_sub [1, 0] rfl ?_
  refine w_M_findToCome_L10 hnL C hR (fun S3 hf => ?_) F S1 0 hf
  refine x_aload_n C d_M_findToCome_49 0 rfl ?_
  refine x_get C d_M_findToCome_50 f_M_rowLong wd970 rfl rfl ?_
  refine x_iconst C d_M_findToCome_53 2 ?_
  refine x_isub C d_M_findToCome_54 ?_
  refine x_bi hf (fun v4 hf => ?_)
  refine x_istore_n C d_M_findToCome_55 [(1, .int v4), (0, .ref (w.1 0))] (by rw [hnL]; decide) rfl ?_
  refine x_sub [1, 0] rfl ?_
  exact w_M_findToCome_L56 hnL C hR  F S3 v4 hf
set_option maxRecDepth 4000 in
theorem m_M_turnsNow {w : Ww} {l0 : Launch} {F : Nat} {S : St} {p1 : Int32} {p2 : Int32} {p3 : Int32} {r : Int32} {S9 : St}  (hf : M_turnsNow F S p1 p2 p3 = some (r, S9)) : MI shM w l0 y_M_turnsNow b_M_turnsNow 8 .int 3 [.ref (w.1 0), .int p1, .int p2, .int p3] S r S9 bzT := by
  refine MI.of (by decide) (Nat.le_of_ble_eq_true rfl) rfl (fun _ _ => rfl) (fun x hnL C hR => ?_)
  rw [M_turnsNow] at hf
  refine x_aload_n C d_M_turnsNow_0 0 rfl ?_
  refine x_aload_n C d_M_turnsNow_1 0 rfl ?_
  refine x_getr C d_M_turnsNow_2 f_M_words wd971 rfl rfl ?_
  refine x_iload_n C d_M_turnsNow_5 3 rfl ?_
  refine x_iald C d_M_turnsNow_6 rfl hf (fun hf => ?_)
  refine x_iconst C d_M_turnsNow_7 0 ?_
  refine x_cvr C d_M_turnsNow_8 wd1258 cm_M_lying rfl rfl [.int (S.1 1 (Int32.toNatClampNeg p3)), .int 0] rfl rfl (by decide) (Nat.le_of_ble_eq_true rfl) hf (fun _ h => m_M_lying h) (fun v1 hf hb_v1 => ?_)
  refine x_istore C d_M_turnsNow_11 [(4, .int v1), (0, .ref (w.1 0)), (1, .int p1), (2, .int p2), (3, .int p3)] (by rw [hnL]; decide) rfl ?_
  refine x_aload_n C d_M_turnsNow_13 1 rfl ?_
  refine x_aload_n C d_M_turnsNow_14 1 rfl ?_
  refine x_getr C d_M_turnsNow_15 f_M_words wd971 rfl rfl ?_
  refine x_iload_n C d_M_turnsNow_18 4 rfl ?_
  refine x_iald C d_M_turnsNow_19 rfl hf (fun hf => ?_)
  refine x_iconst C d_M_turnsNow_20 1 ?_
  refine x_cvr C d_M_turnsNow_21 wd1258 cm_M_lying rfl rfl [.int (S.1 1 (Int32.toNatClampNeg p3)), .int 1] rfl rfl (by decide) (Nat.le_of_ble_eq_true rfl) hf (fun _ h => m_M_lying h) (fun v2 hf hb_v2 => ?_)
  refine x_istore C d_M_turnsNow_24 [(5, .int v2), (4, .int v1), (0, .ref (w.1 0)), (1, .int p1), (2, .int p2), (3, .int p3)] (by rw [hnL]; decide) rfl ?_
  refine x_iload_n C d_M_turnsNow_26 3 rfl ?_
  refine x_if_ne C d_M_turnsNow_27 hf (fun hf => ?_) (fun hf => ?_)
  · refine x_iconst C d_M_turnsNow_30 0 ?_
    exact hR _ _ _ _ d_M_turnsNow_31.1 hf trivial
  refine x_iload_n C d_M_turnsNow_32 3 rfl ?_
  refine x_iconst C d_M_turnsNow_33 1 ?_
  refine x_icmp_ne C d_M_turnsNow_34 hf (fun hf => ?_) (fun hf => ?_)
  · refine x_iconst C d_M_turnsNow_37 1 ?_
    refine x_aload_n C d_M_turnsNow_38 2 rfl ?_
    refine x_get C d_M_turnsNow_39 f_M_wires wd966 rfl rfl ?_
    refine x_ishl C d_M_turnsNow_42 ?_
    refine x_iconst C d_M_turnsNow_43 1 ?_
    refine x_isub C d_M_turnsNow_44 ?_
    refine x_bi hf (fun v3 hf => ?_)
    refine x_istore C d_M_turnsNow_45 [(6, .int v3), (5, .int v2), (4, .int v1), (0, .ref (w.1 0)), (1, .int p1), (2, .int p2), (3, .int p3)] (by rw [hnL]; decide) rfl ?_
    refine x_iconst C d_M_turnsNow_47 2 ?_
    refine x_iload_n C d_M_turnsNow_48 5 rfl ?_
    refine x_iload C d_M_turnsNow_49 2 rfl ?_
    refine x_ixor C d_M_turnsNow_51 ?_
    refine x_iload C d_M_turnsNow_52 0 rfl ?_
    refine x_iand C d_M_turnsNow_54 ?_
    refine x_csr C d_M_turnsNow_55 wd1247 cm_M_countOf [.int ((p2 ^^^ v1) &&& v3)] rfl rfl (by decide) (Nat.le_of_ble_eq_true rfl) hf (fun _ h => m_M_countOf h) (fun v4 hf hb_v4 => ?_)
    refine x_imul C d_M_turnsNow_58 ?_
    refine x_aload_n C d_M_turnsNow_59 3 rfl ?_
    refine x_get C d_M_turnsNow_60 f_M_wires wd966 rfl rfl ?_
    refine x_icmp_le C d_M_turnsNow_63 hf (fun hf => ?_) (fun hf => ?_)
    · refine x_iconst C d_M_turnsNow_66 1 ?_
      refine x_goto C d_M_turnsNow_67 ?_
      exact hR _ _ _ _ d_M_turnsNow_71.1 hf trivial
    refine x_iconst C d_M_turnsNow_70 0 ?_
    exact hR _ _ _ _ d_M_turnsNow_71.1 hf trivial
  refine x_aload_n C d_M_turnsNow_72 2 rfl ?_
  refine x_iload_n C d_M_turnsNow_73 4 rfl ?_
  refine x_iload C d_M_turnsNow_74 1 rfl ?_
  refine x_cvi C d_M_turnsNow_76 wd1262 cm_M_widerCost rfl rfl [.int p2, .int v1] rfl rfl (by decide) (Nat.le_of_ble_eq_true rfl) hf (fun _ _ h => m_M_widerCost h) (fun v5 S6 hf hb_v5 => ?_)
  refine x_iload_n C d_M_turnsNow_79 3 rfl ?_
  refine x_iconst C d_M_turnsNow_80 3 ?_
  refine x_jn (fun J8 => ∀ (v7 : Int32), J8 v7 = some (r, S9) → WX shM w x S6 96 [(0, .ref (w.1 0)), (1, .int p1), (2, .int p2), (3, .int p3), (5, .int v2)] [.int v7, .int v5]) hf (fun v7 hf => ?_) (fun J8 hJ8 hf => ?_)
  · refine x_iadd C d_M_turnsNow_96 ?_
    refine x_bi hf (fun v9 hf => ?_)
    refine x_istore C d_M_turnsNow_97 [(6, .int v9), (0, .ref (w.1 0)), (1, .int p1), (2, .int p2), (3, .int p3), (5, .int v2)] (by rw [hnL]; decide) rfl ?_
    refine x_aload_n C d_M_turnsNow_99 1 rfl ?_
    refine x_iload_n C d_M_turnsNow_100 3 rfl ?_
    refine x_iload C d_M_turnsNow_101 5 rfl ?_
    refine x_cvi C d_M_turnsNow_103 wd1262 cm_M_widerCost rfl rfl [.int p2, .int v2] rfl rfl (by decide) (Nat.le_of_ble_eq_true rfl) hf (fun _ _ h => m_M_widerCost h) (fun v10 S11 hf hb_v10 => ?_)
    refine x_iload_n C d_M_turnsNow_106 2 rfl ?_
    refine x_iconst C d_M_turnsNow_107 3 ?_
    refine x_jn (fun J13 => ∀ (v12 : Int32), J13 v12 = some (r, S9) → WX shM w x S11 125 [(6, .int v9)] [.int v12, .int v10]) hf (fun v12 hf => ?_) (fun J13 hJ13 hf => ?_)
    · refine x_iadd C d_M_turnsNow_125 ?_
      refine x_bi hf (fun v14 hf => ?_)
      refine x_istore C d_M_turnsNow_126 [(7, .int v14), (6, .int v9)] (by rw [hnL]; decide) rfl ?_
      refine x_iload C d_M_turnsNow_128 0 rfl ?_
      refine x_iload C d_M_turnsNow_130 1 rfl ?_
      refine x_icmp_ge C d_M_turnsNow_132 hf (fun hf => ?_) (fun hf => ?_)
      · refine x_iconst C d_M_turnsNow_135 1 ?_
        refine x_goto C d_M_turnsNow_136 ?_
        exact hR _ _ _ _ d_M_turnsNow_140.1 hf trivial
      refine x_iconst C d_M_turnsNow_139 0 ?_
      exact hR _ _ _ _ d_M_turnsNow_140.1 hf trivial
    refine x_icmp_ne C d_M_turnsNow_108 hf (fun hf => ?_) (fun hf => ?_)
    · refine x_aload_n C d_M_turnsNow_111 1 rfl ?_
      refine x_getr C d_M_turnsNow_112 f_M_toCome wd994 rfl rfl ?_
      refine x_iconst C d_M_turnsNow_115 2 ?_
      refine x_iload_n C d_M_turnsNow_116 4 rfl ?_
      refine x_imul C d_M_turnsNow_117 ?_
      refine x_iconst C d_M_turnsNow_118 1 ?_
      refine x_iadd C d_M_turnsNow_119 ?_
      refine x_iald C d_M_turnsNow_120 rfl hf (fun hf => ?_)
      refine x_goto C d_M_turnsNow_121 ?_
      refine x_sub [0] rfl ?_
      exact hJ13 (S11.1 10 (Int32.toNatClampNeg ((2 * p3) + 1))) hf
    refine x_iconst C d_M_turnsNow_124 0 ?_
    refine x_sub [0] rfl ?_
    exact hJ13 0 hf
  refine x_icmp_ne C d_M_turnsNow_81 hf (fun hf => ?_) (fun hf => ?_)
  · refine x_aload_n C d_M_turnsNow_84 2 rfl ?_
    refine x_getr C d_M_turnsNow_85 f_M_toCome wd994 rfl rfl ?_
    refine x_iconst C d_M_turnsNow_88 2 ?_
    refine x_iload_n C d_M_turnsNow_89 5 rfl ?_
    refine x_imul C d_M_turnsNow_90 ?_
    refine x_iald C d_M_turnsNow_91 rfl hf (fun hf => ?_)
    refine x_goto C d_M_turnsNow_92 ?_
    refine x_sub [2, 3, 4, 5, 0] rfl ?_
    exact hJ8 (S6.1 10 (Int32.toNatClampNeg (2 * p3))) hf
  refine x_iconst C d_M_turnsNow_95 0 ?_
  refine x_sub [2, 3, 4, 5, 0] rfl ?_
  exact hJ8 0 hf
