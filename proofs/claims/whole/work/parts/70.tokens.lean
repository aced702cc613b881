/-! B: text: tokens, pure and on the class's side -/
def rn (B : Nat → Nat) (lo hi : Nat) : Nat → Nat → Nat
  | 0, p => p
  | k + 1, p => if lo ≤ B p ∧ B p ≤ hi then rn B lo hi k (p + 1) else p
theorem rn_x (B : Nat → Nat) (lo hi : Nat) : ∀ (k p : Nat), p ≤ rn B lo hi k p ∧ rn B lo hi k p ≤ p + k ∧ ∀ j, p ≤ j → j < rn B lo hi k p → lo ≤ B j ∧ B j ≤ hi
  | 0, p => ⟨Nat.le_refl _, Nat.le_refl _, fun j h1 h2 => by rw [rn] at h2; omega⟩
  | k + 1, p => by
    rw [rn]
    by_cases g : lo ≤ B p ∧ B p ≤ hi
    · rw [if_pos g]
      obtain ⟨h1, h2, h3⟩ := rn_x B lo hi k (p + 1)
      refine ⟨by omega, by omega, fun j j1 j2 => ?_⟩
      by_cases e : j = p
      · rw [e]; exact g
      · exact h3 j (by omega) j2
    · rw [if_neg g]
      exact ⟨Nat.le_refl _, by omega, fun j h1 h2 => by omega⟩
theorem rn_gt {B : Nat → Nat} {lo hi k p : Nat} (hk : 0 < k) (h : lo ≤ B p ∧ B p ≤ hi) : p < rn B lo hi k p := by
  obtain ⟨k', rfl⟩ : ∃ k', k = k' + 1 := ⟨k - 1, by omega⟩
  rw [rn, if_pos h]
  have := (rn_x B lo hi k' (p + 1)).1
  omega
def wlen (j : Nat) : Nat := if j = 0 then 5 else if j = 1 then 3 else if j = 3 then 6 else 4
def wch (j i : Nat) : Nat := if j = 0 then (if i = 0 then 119 else if i = 1 then 105 else if i = 2 then 114 else if i = 3 then 101 else 115) else if j = 1 then (if i = 0 then 111 else if i = 1 then 119 else 110) else if j = 2 then (if i = 0 then 115 else if i = 1 then 105 else if i = 2 then 100 else 101) else if j = 3 then (if i = 0 then 115 else if i = 1 then 104 else if i = 2 then 105 else if i = 3 then 101 else if i = 4 then 108 else 100) else if j = 4 then (if i = 0 then 115 else if i = 1 then 101 else if i = 2 then 110 else 100) else (if i = 0 then 115 else if i = 1 then 116 else if i = 2 then 101 else 112)
abbrev spl (B : Nat → Nat) (s e j : Nat) : Prop := e - s = wlen j ∧ ∀ i, i < wlen j → B (s + i) = wch j i
def nmF (B : Nat → Nat) (s e : Nat) : Nat := if spl B s e 0 then 1 else if spl B s e 1 then 2 else if spl B s e 2 then 3 else if spl B s e 3 then 4 else if spl B s e 4 then 5 else if spl B s e 5 then 6 else 0
def dvF (B : Nat → Nat) (s : Nat) : Nat → Nat
  | 0 => 0
  | k + 1 => dvF B s k * 10 + (B (s + k) - 48)
abbrev isLt (v : Nat) : Prop := 97 ≤ v ∧ v ≤ 122
abbrev isDg (v : Nat) : Prop := 48 ≤ v ∧ v ≤ 57
def tkS (B : Nat → Nat) (t p : Nat) : Nat := rn B 32 32 (t - p) p
def tkE (B : Nat → Nat) (t p : Nat) : Nat := if tkS B t p < t then (if isLt (B (tkS B t p)) then rn B 97 122 (t - tkS B t p) (tkS B t p) else if isDg (B (tkS B t p)) then rn B 48 57 (t - tkS B t p) (tkS B t p) else tkS B t p + 1) else t
def tkV (B : Nat → Nat) (t p : Nat) : Nat := if isLt (B (tkS B t p)) then nmF B (tkS B t p) (tkE B t p) else dvF B (tkS B t p) (tkE B t p - tkS B t p)
def tkK (B : Nat → Nat) (t p : Nat) : Nat := if tkS B t p < t then (if isLt (B (tkS B t p)) then (if nmF B (tkS B t p) (tkE B t p) = 0 then 4 else 1) else if isDg (B (tkS B t p)) then (if 3 < tkE B t p - tkS B t p then 4 else 2) else if B (tkS B t p) = 59 then 3 else 4) else 0
theorem tkS_x (B : Nat → Nat) {t p : Nat} (hp : p ≤ t) : p ≤ tkS B t p ∧ tkS B t p ≤ t := by
  obtain ⟨h1, h2, -⟩ := rn_x B 32 32 (t - p) p
  unfold tkS
  omega
theorem tkE_x (B : Nat → Nat) {t p : Nat} (hp : p ≤ t) : tkS B t p ≤ tkE B t p ∧ tkE B t p ≤ t ∧ (tkS B t p < t → tkS B t p < tkE B t p) := by
  have hs := tkS_x B hp
  unfold tkE
  by_cases g : tkS B t p < t
  · rw [if_pos g]
    have a := rn_x B 97 122 (t - tkS B t p) (tkS B t p)
    have b := rn_x B 48 57 (t - tkS B t p) (tkS B t p)
    by_cases g1 : isLt (B (tkS B t p))
    · rw [if_pos g1]
      have := rn_gt (B := B) (lo := 97) (hi := 122) (k := t - tkS B t p) (p := tkS B t p) (by omega) g1
      omega
    · rw [if_neg g1]
      by_cases g2 : isDg (B (tkS B t p))
      · rw [if_pos g2]
        have := rn_gt (B := B) (lo := 48) (hi := 57) (k := t - tkS B t p) (p := tkS B t p) (by omega) g2
        omega
      · rw [if_neg g2]
        omega
  · rw [if_neg g]
    omega
theorem nmF_le (B : Nat → Nat) (s e : Nat) : nmF B s e ≤ 6 := by
  unfold nmF
  repeat (first | omega | split)
theorem dvF_lt {B : Nat → Nat} {s : Nat} : ∀ k, (∀ i, i < k → isDg (B (s + i))) → dvF B s k < 10 ^ k
  | 0, _ => by rw [dvF]; decide
  | k + 1, h => by
    have a := dvF_lt k (fun i hi => h i (by omega))
    have b := h k (by omega)
    unfold isDg at b
    rw [dvF, Nat.pow_succ]
    omega
/-- the bytes of the tape on the class's side -/
def BN (S : St) (B : Nat → Nat) (t : Nat) : Prop := S.1 7 0 = nI t ∧ t ≤ 240 ∧ ∀ k, k < t → B k < 256 ∧ S.1 8 k = jb (nI (B k))
theorem wi32 : ∀ v, v < 256 → T_isWithin 0 Sz (jb (nI v)) 32 32 = some (if 32 ≤ v ∧ v ≤ 32 then 1 else 0) := by decide +kernel
theorem wi97 : ∀ v, v < 256 → T_isWithin 0 Sz (jb (nI v)) 97 122 = some (if 97 ≤ v ∧ v ≤ 122 then 1 else 0) := by decide +kernel
theorem wi48 : ∀ v, v < 256 → T_isWithin 0 Sz (jb (nI v)) 48 57 = some (if 48 ≤ v ∧ v ≤ 57 then 1 else 0) := by decide +kernel
theorem jb_eq : ∀ v, v < 256 → ∀ c, c < 128 → (jb (nI v) = nI c ↔ v = c) := by decide +kernel
theorem jb_dg : ∀ v, v < 58 → jb (nI v) = nI v := by decide +kernel
theorem byteAt_e {F p t : Nat} {S : St} {B : Nat → Nat} (h : BN S B t) (hp : p < t) : T_byteAt F S (nI p) = some (jb (nI (B p))) := by
  obtain ⟨h0, h1, h2⟩ := h
  unfold T_byteAt
  rw [jn_e, if_neg (nI_pos (by omega)), h0, if_pos (nI_lt hp (by omega)), if_pos (show nI p < 240 from (nI_ltI (b := 240) (by omega) (by omega)).mpr (by omega)), chk_n _ (by omega) (by decide), nI_clamp (by omega), (h2 p hp).2]
theorem eor_loop {F t lo hi : Nat} {S : St} {B : Nat → Nat} {a b : Int32} (h : BN S B t) (hw : ∀ v, v < 256 → T_isWithin 0 Sz (jb (nI v)) a b = some (if lo ≤ v ∧ v ≤ hi then 1 else 0)) : ∀ (k p f : Nat), p + k = t → k < f → T_endOfRun_L3 F a b S f (nI p) = some (nI (rn B lo hi k p))
  | 0, p, f + 1, hp, hf => by
    have h1 := h.2.1
    rw [T_endOfRun_L3, h.1, if_neg (by rw [nI_ltI (by omega) (by omega)]; omega)]
    rfl
  | k + 1, p, f + 1, hp, hf => by
    have h1 := h.2.1
    have e : T_isWithin F S (jb (nI (B p))) a b = some (if lo ≤ B p ∧ B p ≤ hi then 1 else 0) := hw (B p) (h.2.2 p (by omega)).1
    rw [T_endOfRun_L3, h.1, if_pos (by rw [nI_ltI (by omega) (by omega)]; omega), byteAt_e h (by omega), crd_s, e, crd_s, i10, rn]
    by_cases g : lo ≤ B p ∧ B p ≤ hi
    · rw [if_pos g, if_pos g, bnd_e, nI_1]
      exact eor_loop h hw k (p + 1) f (by omega) (by omega)
    · rw [if_neg g, if_neg g]
theorem eor_e {t lo hi p : Nat} {S : St} {B : Nat → Nat} {a b : Int32} (h : BN S B t) (hw : ∀ v, v < 256 → T_isWithin 0 Sz (jb (nI v)) a b = some (if lo ≤ v ∧ v ≤ hi then 1 else 0)) (hp : p ≤ t) : T_endOfRun F9 S (nI p) a b = some (nI (rn B lo hi (t - p) p)) := by
  have h1 := h.2.1
  exact eor_loop h hw (t - p) p F9 (by omega) (by unfold F9; omega)
theorem js_len : ∀ j, j < 6 → Js_length j = some (nI (wlen j)) := by decide +kernel
theorem js_chr : ∀ j, j < 6 → ∀ i, i < 6 → i < wlen j → Js_charAt j (nI i) = some (nI (wch j i)) := by decide +kernel
theorem wch_lt : ∀ j, j < 6 → ∀ i, i < 6 → wch j i < 128 := by decide
theorem wlen_le : ∀ j, j < 6 → wlen j ≤ 6 := by decide
theorem spells_loop {t s e j : Nat} {S : St} {B : Nat → Nat} (h : BN S B t) (hj : j < 6) (he : e ≤ t) (h2 : S.1 7 2 = nI s) (hl : s + wlen j = e) : ∀ (k i f : Nat), i + k = wlen j → k < f → (∀ u, u < i → B (s + u) = wch j u) → T_spells_L20 F9 j S f (nI i) = some (if ∀ u, u < wlen j → B (s + u) = wch j u then 1 else 0)
  | 0, i, f + 1, hi, hf, hu => by
    have w6 := wlen_le j hj
    rw [T_spells_L20, js_len j hj, crd_s, if_neg (by rw [nI_ltI (by omega) (by omega)]; omega), if_pos (fun u h => hu u (by omega))]
  | k + 1, i, f + 1, hi, hf, hu => by
    have w6 := wlen_le j hj
    have h1 := h.2.1
    have bl := (h.2.2 (s + i) (by omega)).1
    rw [T_spells_L20, js_len j hj, crd_s, if_pos (by rw [nI_ltI (by omega) (by omega)]; omega), h2, nI_add, byteAt_e h (by omega), crd_s, js_chr j hj i (by omega) (by omega), crd_s]
    have eq := jb_eq _ bl _ (wch_lt j hj i (by omega))
    by_cases g : B (s + i) = wch j i
    · rw [if_pos (eq.mpr g), bnd_e, nI_1]
      exact spells_loop h hj he h2 hl k (i + 1) f (by omega) (by omega) (fun u hu' => by
        by_cases c : u = i
        · rw [c]; exact g
        · exact hu u (by omega))
    · rw [if_neg (fun z => g (eq.mp z)), if_neg (fun z => g (z i (by omega)))]
theorem spells_e {t s e j : Nat} {S : St} {B : Nat → Nat} (h : BN S B t) (hj : j < 6) (hs : s ≤ e) (he : e ≤ t) (h2 : S.1 7 2 = nI s) (h5 : S.1 7 5 = nI e) : T_spells F9 j S = some (if spl B s e j then 1 else 0) := by
  have w6 := wlen_le j hj
  have h1 := h.2.1
  unfold T_spells
  rw [js_len j hj, crd_s, h5, h2, pk_sub hs]
  have eq := nI_eq (a := e - s) (b := wlen j) (by omega) (by omega)
  by_cases g : e - s = wlen j
  · have := spells_loop h hj he h2 (by omega) (wlen j) 0 F9 (by omega) (by unfold F9; omega) (fun u hu => by omega)
    rw [nI_0] at this
    rw [if_pos (eq.mpr g), this]
    congr 1
    by_cases c : ∀ u, u < wlen j → B (s + u) = wch j u
    · rw [if_pos c, if_pos ⟨g, c⟩]
    · rw [if_neg c, if_neg (fun z => c z.2)]
  · rw [if_neg (fun z => g (eq.mp z)), if_neg (fun z => g z.1)]
theorem nameNumber_e {t s e : Nat} {S : St} {B : Nat → Nat} (h : BN S B t) (hs : s ≤ e) (he : e ≤ t) (h2 : S.1 7 2 = nI s) (h5 : S.1 7 5 = nI e) : T_nameNumber F9 S = some (nI (nmF B s e)) := by
  have sp := fun j hj => spells_e (j := j) h hj hs he h2 h5
  unfold T_nameNumber nmF
  rw [sp 0 (by decide), sp 1 (by decide), sp 2 (by decide), sp 3 (by decide), sp 4 (by decide), sp 5 (by decide)]
  simp only [crd_s, i10]
  by_cases g0 : spl B s e 0
  · rw [if_pos g0, if_pos g0]; rfl
  rw [if_neg g0, if_neg g0]
  by_cases g1 : spl B s e 1
  · rw [if_pos g1, if_pos g1]; rfl
  rw [if_neg g1, if_neg g1]
  by_cases g2 : spl B s e 2
  · rw [if_pos g2, if_pos g2]; rfl
  rw [if_neg g2, if_neg g2]
  by_cases g3 : spl B s e 3
  · rw [if_pos g3, if_pos g3]; rfl
  rw [if_neg g3, if_neg g3]
  by_cases g4 : spl B s e 4
  · rw [if_pos g4, if_pos g4]; rfl
  rw [if_neg g4, if_neg g4]
  by_cases g5 : spl B s e 5
  · rw [if_pos g5, if_pos g5]; rfl
  · rw [if_neg g5, if_neg g5]; rfl
/-- what reading leaves on the class's side -/
def FrT (S S' : St) : Prop := (∀ a, a ≠ 7 → S'.1 a = S.1 a) ∧ (∀ k, k ≠ 1 → k ≠ 2 → k ≠ 3 → k ≠ 5 → S'.1 7 k = S.1 7 k) ∧ S'.2 = S.2
theorem FrT.rf {S : St} : FrT S S := ⟨fun _ _ => rfl, fun _ _ _ _ _ => rfl, rfl⟩
theorem FrT.tr {S T U : St} (h : FrT S T) (g : FrT T U) : FrT S U := ⟨fun a ha => (g.1 a ha).trans (h.1 a ha), fun k a b c d => (g.2.1 k a b c d).trans (h.2.1 k a b c d), g.2.2.trans h.2.2⟩
theorem FrT.sI {S : St} {k : Nat} {v : Int32} (h : k = 1 ∨ k = 2 ∨ k = 3 ∨ k = 5) : FrT S (sI S 7 k v) := ⟨fun a ha => sI_row _ _ _ _ _ ha, fun j a b c d => by rw [sI_at, if_neg (by omega)], rfl⟩
theorem BN.fr {S S' : St} {B : Nat → Nat} {t : Nat} (h : BN S B t) (f : FrT S S') : BN S' B t := by
  unfold BN at *
  rw [f.2.1 0 (by decide) (by decide) (by decide) (by decide), f.1 8 (by decide)]
  exact h
theorem num_loop {t s e : Nat} {B : Nat → Nat} (he : e ≤ t) (hd : ∀ j, s ≤ j → j < e → isDg (B j)) : ∀ (k i f : Nat) (S : St), s + i + k = e → k < f → BN S B t → S.1 7 5 = nI e → S.1 7 3 = nI (dvF B s i) → ∃ S', T_nextNumber_L53 F9 0 f S (nI (s + i)) = some S' ∧ FrT S S' ∧ S'.1 7 3 = nI (dvF B s (e - s)) ∧ ∀ k, k ≠ 3 → S'.1 7 k = S.1 7 k
  | 0, i, f + 1, S, hi, hf, h, h5, h3 => by
    have h1 := h.2.1
    refine ⟨S, ?_, FrT.rf, by rw [h3, show e - s = i by omega], fun _ _ => rfl⟩
    rw [T_nextNumber_L53, h5, if_neg (by rw [nI_ltI (by omega) (by omega)]; omega)]
  | k + 1, i, f + 1, S, hi, hf, h, h5, h3 => by
    have h1 := h.2.1
    have d := hd (s + i) (by omega) (by omega)
    unfold isDg at d
    have fr : FrT S (sI S 7 3 (nI (dvF B s (i + 1)))) := FrT.sI (by omega)
    obtain ⟨S', a1, a2, a3, a4⟩ := num_loop he hd k (i + 1) f (sI S 7 3 (nI (dvF B s (i + 1)))) (by omega) (by omega) (h.fr fr) (by rw [sI_at, if_neg (by decide), h5]) (by rw [sI_at, if_pos ⟨rfl, rfl⟩])
    refine ⟨S', ?_, fr.tr a2, a3, fun k hk => by rw [a4 k hk, sI_at, if_neg (by omega)]⟩
    rw [T_nextNumber_L53, h5, if_pos (by rw [nI_ltI (by omega) (by omega)]; omega), if_pos rfl, byteAt_e h (by omega), crd_s, h3, jb_dg _ (by omega), show (10 : Int32) = nI 10 from rfl, pk_mul, nI_add, show (48 : Int32) = nI 48 from rfl, pk_sub (by omega), show dvF B s i * 10 + B (s + i) - 48 = dvF B s (i + 1) by rw [dvF]; omega, bnd_e, bnd_e, nI_1]
    exact a1
/-- the class reads a token -/
theorem T_next_e {t p : Nat} {S : St} {B : Nat → Nat} (h : BN S B t) (hp : p ≤ t) (h5 : S.1 7 5 = nI p) : ∃ S', T_next F9 S = some S' ∧ FrT S S' ∧ S'.1 7 2 = nI (tkS B t p) ∧ S'.1 7 1 = nI (tkK B t p) ∧ (tkK B t p = 1 ∨ tkK B t p = 2 → S'.1 7 3 = nI (tkV B t p)) ∧ S'.1 7 5 = nI (tkE B t p) := by
  have h1 := h.2.1
  have hs := tkS_x B hp
  have hE := tkE_x B hp
  unfold T_next
  rw [h5, eor_e h wi32 hp, crd_s]
  rw [show rn B 32 32 (t - p) p = tkS B t p from rfl]
  generalize es : tkS B t p = s at *
  simp only [bnd_e]
  generalize hS4 : sI (sI (sI S 7 2 (nI s)) 7 3 0) 7 5 ((sI (sI S 7 2 (nI s)) 7 3 0).1 7 2 + 1) = S4
  have f4 : FrT S S4 := by rw [← hS4]; exact ((FrT.sI (by omega)).tr (FrT.sI (by omega))).tr (FrT.sI (by omega))
  have b4 := h.fr f4
  have q2 : S4.1 7 2 = nI s := by rw [← hS4, sI_at, if_neg (by decide), sI_at, if_neg (by decide), sI_at, if_pos ⟨rfl, rfl⟩]
  have q3 : S4.1 7 3 = 0 := by rw [← hS4, sI_at, if_neg (by decide), sI_at, if_pos ⟨rfl, rfl⟩]
  have q5 : S4.1 7 5 = nI (s + 1) := by rw [← hS4, sI_at, if_pos ⟨rfl, rfl⟩, sI_at, if_neg (by decide), sI_at, if_pos ⟨rfl, rfl⟩, nI_1]
  rw [q2, b4.1]
  obtain ⟨y, ey⟩ : ∃ y, T_byteAt F9 S4 (nI s) = some y := by
    unfold T_byteAt
    rw [jn_e, if_neg (nI_pos (by omega))]
    split
    · by_cases g : nI s < 240
      · rw [if_pos g, chk_n _ ((nI_ltI (b := 240) (by omega) (by omega)).mp g) (by decide)]
        exact ⟨_, rfl⟩
      · rw [if_neg g]
        exact ⟨_, rfl⟩
    · exact ⟨_, rfl⟩
  by_cases g : s < t
  · rw [byteAt_e b4 g] at ey
    injection ey with ey
    rw [byteAt_e b4 g, crd_s, if_pos (nI_lt g (by omega))]
    have bl := (h.2.2 s g).1
    have w1 : T_isWithin F9 S4 (jb (nI (B s))) 97 122 = some (if isLt (B s) then 1 else 0) := wi97 (B s) bl
    have w2 : T_isWithin F9 S4 (jb (nI (B s))) 48 57 = some (if isDg (B s) then 1 else 0) := wi48 (B s) bl
    rw [w1, w2, crd_s, crd_s]
    simp only [i10]
    have eE : tkE B t p = if isLt (B s) then rn B 97 122 (t - s) s else if isDg (B s) then rn B 48 57 (t - s) s else s + 1 := by
      unfold tkE; rw [es, if_pos g]
    by_cases gl : isLt (B s)
    · rw [if_pos gl] at eE
      have eK : tkK B t p = if nmF B s (tkE B t p) = 0 then 4 else 1 := by
        unfold tkK; rw [es, if_pos g, if_pos gl]
      have eV : tkV B t p = nmF B s (tkE B t p) := by
        unfold tkV; rw [es, if_pos gl]
      rw [if_pos gl, eor_e b4 wi97 (by omega), crd_s, ← eE]
      have f5 : FrT S4 (sI S4 7 5 (nI (tkE B t p))) := FrT.sI (by omega)
      rw [nameNumber_e (b4.fr f5) hE.1 hE.2.1 (by rw [sI_at, if_neg (by decide), q2]) (by rw [sI_at, if_pos ⟨rfl, rfl⟩]), crd_s, jn_e]
      rw [show (sI (sI S4 7 5 (nI (tkE B t p))) 7 3 (nI (nmF B s (tkE B t p)))).1 7 3 = nI (nmF B s (tkE B t p)) by rw [sI_at, if_pos ⟨rfl, rfl⟩]]
      have nle := nmF_le B s (tkE B t p)
      have e0 : nI (nmF B s (tkE B t p)) = 0 ↔ nmF B s (tkE B t p) = 0 := nI_eq (b := 0) (by omega) (by omega)
      have fin : ∀ c : Nat, tkK B t p = c → ∃ S', some (sI (sI (sI S4 7 5 (nI (tkE B t p))) 7 3 (nI (nmF B s (tkE B t p)))) 7 1 (nI c)) = some S' ∧ FrT S S' ∧ S'.1 7 2 = nI s ∧ S'.1 7 1 = nI (tkK B t p) ∧ (tkK B t p = 1 ∨ tkK B t p = 2 → S'.1 7 3 = nI (tkV B t p)) ∧ S'.1 7 5 = nI (tkE B t p) := fun c hc => by
        refine ⟨_, rfl, ((f4.tr f5).tr (FrT.sI (by omega))).tr (FrT.sI (by omega)), ?_, ?_, fun _ => ?_, ?_⟩
        · rw [sI_at, if_neg (by decide), sI_at, if_neg (by decide), sI_at, if_neg (by decide), q2]
        · rw [sI_at, if_pos ⟨rfl, rfl⟩, hc]
        · rw [sI_at, if_neg (by decide), sI_at, if_pos ⟨rfl, rfl⟩, eV]
        · rw [sI_at, if_neg (by decide), sI_at, if_neg (by decide), sI_at, if_pos ⟨rfl, rfl⟩]
      by_cases g0 : nmF B s (tkE B t p) = 0
      · rw [if_pos (e0.mpr g0)]
        exact fin 4 (by rw [eK, if_pos g0])
      · rw [if_neg (fun z => g0 (e0.mp z))]
        exact fin 1 (by rw [eK, if_neg g0])
    · rw [if_neg gl] at eE
      rw [if_neg gl]
      by_cases gd : isDg (B s)
      · rw [if_pos gd] at eE
        have eK : tkK B t p = if 3 < tkE B t p - s then 4 else 2 := by
          unfold tkK; rw [es, if_pos g, if_neg gl, if_pos gd]
        have eV : tkV B t p = dvF B s (tkE B t p - s) := by
          unfold tkV; rw [es, if_neg gl]
        rw [if_pos gd, T_nextNumber, q2, eor_e b4 wi48 (by omega), crd_s, ← eE]
        have f5 : FrT S4 (sI S4 7 5 (nI (tkE B t p))) := FrT.sI (by omega)
        simp only [bnd_e, jn_e]
        rw [show (sI S4 7 5 (nI (tkE B t p))).1 7 5 = nI (tkE B t p) by rw [sI_at, if_pos ⟨rfl, rfl⟩], show (sI S4 7 5 (nI (tkE B t p))).1 7 2 = nI s by rw [sI_at, if_neg (by decide), q2], pk_sub hE.1]
        have lt3 : (3 : Int32) < nI (tkE B t p - s) ↔ 3 < tkE B t p - s := nI_ltI (a := 3) (by omega) (by omega)
        have i11 : ¬ (1 : Int32) = 0 := by decide
        by_cases g3 : 3 < tkE B t p - s
        · rw [if_pos (lt3.mpr g3), if_neg i11]
          rw [if_pos g3] at eK
          refine ⟨sI (sI S4 7 5 (nI (tkE B t p))) 7 1 4, ?_, (f4.tr f5).tr (FrT.sI (by omega)), ?_, ?_, fun z => ?_, ?_⟩
          · rw [show (sI (sI S4 7 5 (nI (tkE B t p))) 7 1 4).1 7 2 = nI s by rw [sI_at, if_neg (by decide), sI_at, if_neg (by decide), q2], show F9 = 999999999 + 1 from rfl, T_nextNumber_L53, if_neg i11]
            split <;> rfl
          · rw [sI_at, if_neg (by decide), sI_at, if_neg (by decide), q2]
          · rw [sI_at, if_pos ⟨rfl, rfl⟩, eK]; rfl
          · rw [eK] at z; omega
          · rw [sI_at, if_neg (by decide), sI_at, if_pos ⟨rfl, rfl⟩]
        · rw [if_neg (fun z => g3 (lt3.mp z)), if_pos True.intro]
          rw [if_neg g3] at eK
          have f6 : FrT (sI S4 7 5 (nI (tkE B t p))) (sI (sI S4 7 5 (nI (tkE B t p))) 7 1 2) := FrT.sI (by omega)
          obtain ⟨S', a1, a2, a3, a4⟩ := num_loop (s := s) (e := tkE B t p) (t := t) (B := B) hE.2.1 (fun j j1 j2 => by
            rw [eE] at j2
            exact (rn_x B 48 57 (t - s) s).2.2 j j1 j2) (tkE B t p - s) 0 F9 (sI (sI S4 7 5 (nI (tkE B t p))) 7 1 2) (by omega) (by unfold F9; omega) ((b4.fr f5).fr f6) (by rw [sI_at, if_neg (by decide), sI_at, if_pos ⟨rfl, rfl⟩]) (by rw [sI_at, if_neg (by decide), sI_at, if_neg (by decide), q3]; rfl)
          refine ⟨S', ?_, ((f4.tr f5).tr f6).tr a2, ?_, ?_, fun _ => by rw [a3, eV], ?_⟩
          · rw [show (sI (sI S4 7 5 (nI (tkE B t p))) 7 1 2).1 7 2 = nI (s + 0) by rw [sI_at, if_neg (by decide), sI_at, if_neg (by decide), q2]; rfl, a1, cav_s]
          · rw [a4 2 (by decide), sI_at, if_neg (by decide), sI_at, if_neg (by decide), q2]
          · rw [a4 1 (by decide), sI_at, if_pos ⟨rfl, rfl⟩, eK]; rfl
          · rw [a4 5 (by decide), sI_at, if_neg (by decide), sI_at, if_pos ⟨rfl, rfl⟩]
      · rw [if_neg gd] at eE
        have eK : tkK B t p = if B s = 59 then 3 else 4 := by
          unfold tkK; rw [es, if_pos g, if_neg gl, if_neg gd]
        rw [if_neg gd, jn_e]
        have e59 : jb (nI (B s)) = 59 ↔ B s = 59 := jb_eq (B s) bl 59 (by decide)
        have fin : ∀ c : Nat, tkK B t p = c → c = 3 ∨ c = 4 → ∃ S', some (sI S4 7 1 (nI c)) = some S' ∧ FrT S S' ∧ S'.1 7 2 = nI s ∧ S'.1 7 1 = nI (tkK B t p) ∧ (tkK B t p = 1 ∨ tkK B t p = 2 → S'.1 7 3 = nI (tkV B t p)) ∧ S'.1 7 5 = nI (tkE B t p) := fun c hc h34 => by
          refine ⟨_, rfl, f4.tr (FrT.sI (by omega)), ?_, ?_, fun z => by omega, ?_⟩
          · rw [sI_at, if_neg (by decide), q2]
          · rw [sI_at, if_pos ⟨rfl, rfl⟩, hc]
          · rw [sI_at, if_neg (by decide), q5, eE]
        by_cases g5 : B s = 59
        · rw [if_pos (e59.mpr g5)]
          exact fin 3 (by rw [eK, if_pos g5]) (by omega)
        · rw [if_neg (fun z => g5 (e59.mp z))]
          exact fin 4 (by rw [eK, if_neg g5]) (by omega)
  · rw [ey, crd_s, if_neg (by rw [nI_ltI (by omega) (by omega)]; exact g)]
    have eK : tkK B t p = 0 := by unfold tkK; rw [es, if_neg g]
    have eE : tkE B t p = t := by unfold tkE; rw [es, if_neg g]
    refine ⟨_, rfl, (f4.tr (FrT.sI (by omega))).tr (FrT.sI (by omega)), ?_, ?_, fun z => by omega, ?_⟩
    · rw [sI_at, if_neg (by decide), sI_at, if_neg (by decide), q2]
    · rw [sI_at, if_neg (by decide), sI_at, if_pos ⟨rfl, rfl⟩, eK]; rfl
    · rw [sI_at, if_pos ⟨rfl, rfl⟩, sI_at, if_neg (by decide), b4.1, eE]
