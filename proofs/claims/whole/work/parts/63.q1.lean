/-! ===== the questions of lines, both sides ===== -/
theorem qLn (a1 : Int32) : (fX5_isLine 1 a1 = some 0 ∧ fX7_isLine a1 = some 0) ∨ ∃ l, l < 32 ∧ a1 = nI l ∧ fX5_isLine 1 a1 = some 1 ∧ fX7_isLine a1 = some 1 := by
  unfold fX5_isLine fX7_isLine
  rw [if_neg (show ¬ (1 : Int32) = 0 by decide)]
  rcases pk_ix a1 (n := 32) (by omega) with h | h | ⟨l, hl, e⟩
  · rw [if_pos h]; exact Or.inl ⟨rfl, rfl⟩
  · by_cases c : a1 < 0
    · rw [if_pos c]; exact Or.inl ⟨rfl, rfl⟩
    · rw [if_neg c, if_pos (show (32 : Int32) ≤ a1 from h)]; exact Or.inl ⟨rfl, rfl⟩
  · refine Or.inr ⟨l, hl, e, ?_⟩
    rw [e, if_neg (nI_pos (by omega)), if_neg (n32' hl)]
    exact ⟨rfl, rfl⟩
theorem zPl (a1 a2 : Int32) : (fX5_isPlace 1 a1 a2 = some 0 ∧ fX7_isPlace a1 a2 = some 0) ∨ ∃ l i, l < 32 ∧ i < 8 ∧ a1 = nI l ∧ a2 = nI i ∧ fX5_isPlace 1 a1 a2 = some 1 ∧ fX7_isPlace a1 a2 = some 1 := by
  unfold fX5_isPlace fX7_isPlace
  rcases qLn a1 with ⟨h1, h2⟩ | ⟨l, hl, e, h1, h2⟩
  · rw [h1, h2, Option.bind_some, if_pos rfl]; exact Or.inl ⟨rfl, rfl⟩
  · rw [h1, h2, Option.bind_some, if_neg (show ¬ (1 : Int32) = 0 by decide)]
    rcases pk_ix a2 (n := 8) (by omega) with h | h | ⟨i, hi, e2⟩
    · rw [if_pos h]; exact Or.inl ⟨rfl, rfl⟩
    · by_cases c : a2 < 0
      · rw [if_pos c]; exact Or.inl ⟨rfl, rfl⟩
      · rw [if_neg c, if_pos (show (8 : Int32) ≤ a2 from h)]; exact Or.inl ⟨rfl, rfl⟩
    · refine Or.inr ⟨l, i, hl, hi, e, e2, ?_⟩
      rw [e2, if_neg (nI_pos (by omega)), if_neg (n8' hi)]
      exact ⟨rfl, rfl⟩
theorem zFo (a2 : Int32) : (fX5_isForm a2 = some 0 ∧ fX7_in a2 0 7 = some 0) ∨ ∃ f, f < 8 ∧ a2 = nI f ∧ fX5_isForm a2 = some 1 ∧ fX7_in a2 0 7 = some 1 := by
  unfold fX5_isForm fX7_in
  rcases pk_ix a2 (n := 8) (by omega) with h | h | ⟨f, hf, e⟩
  · rw [if_pos h]; exact Or.inl ⟨rfl, rfl⟩
  · by_cases c : a2 < 0
    · rw [if_pos c]; exact Or.inl ⟨rfl, rfl⟩
    · have h7 : (7 : Int32) < a2 := by
        have h' : (8 : Int32) ≤ a2 := h
        rw [i_lt]; rw [i_le] at h'
        have e1 : (8 : Int32).toInt = 8 := rfl
        have e2 : (7 : Int32).toInt = 7 := rfl
        omega
      rw [if_neg c, if_pos h7]; exact Or.inl ⟨rfl, rfl⟩
  · refine Or.inr ⟨f, hf, e, ?_⟩
    rw [e, if_neg (nI_pos (by omega)), if_neg (show ¬ (7 : Int32) < nI f from nI_nlt (a := 7) (b := f) (by omega) (by omega))]
    exact ⟨rfl, rfl⟩
theorem zBa (a2 : Int32) : (fX5_isBased a2 = some 0 ∧ fX7_in a2 2 6 = some 0) ∨ ∃ f, (2 ≤ f ∧ f ≤ 6) ∧ a2 = nI f ∧ fX5_isBased a2 = some 1 ∧ fX7_in a2 2 6 = some 1 := by
  unfold fX5_isBased fX7_in
  by_cases c : a2 < 2
  · rw [if_pos c]; exact Or.inl ⟨rfl, rfl⟩
  · rw [if_neg c]
    by_cases c2 : 6 < a2
    · rw [if_pos c2]; exact Or.inl ⟨rfl, rfl⟩
    · rw [if_neg c2]
      have h0 : ¬ a2 < 0 := fun z => c (by rw [i_lt] at z ⊢; have e1 : (0 : Int32).toInt = 0 := rfl; have e2 : (2 : Int32).toInt = 2 := rfl; omega)
      obtain ⟨j, hj, e⟩ := nI_of h0
      refine Or.inr ⟨j, ?_, e, rfl, rfl⟩
      rw [e, show (2 : Int32) = nI 2 from rfl, nI_ltI hj (by omega)] at c
      rw [e, show (6 : Int32) = nI 6 from rfl, nI_ltI (by omega) hj] at c2
      omega
section Q1
variable {st wy : Nat} {wg : Bool} {B : Nat} {a : zA} {used last shape dirty memory words v0 x : Nat → Int32} {rf th tr wh s1 s2 s3 cw : Int32}
theorem zRS_w (hR : zRS (mkK st wy wg false) a used last shape dirty memory words) {l : Nat} (hl : l < 32) : ∀ j, j < 8 → words (l * 8 + j) = aLw a l j := fun j hj => (hR.2 _ (by omega)).2
theorem m_word (hI : zIA B a) (hR : zRS (mkK st wy wg false) a used last shape dirty memory words) (hX : zRX a v0) (a1 a2 : Int32) :
    ∃ v t r, fX5_word 1 rf words a1 a2 = some (v, t) ∧ fX7_word th tr wh s1 s2 s3 cw v0 x a1 a2 = some (v, 0, t, -1, r) := by
  unfold fX5_word fX7_word
  rcases zPl a1 a2 with ⟨h1, h2⟩ | ⟨l, i, hl, hi, e1, e2, h1, h2⟩
  · rw [h1, h2, Option.bind_some, Option.bind_some, if_pos rfl, if_pos rfl]
    exact ⟨_, _, _, rfl, rfl⟩
  · obtain ⟨y, f1, f2⟩ := pX7_works (s1 := s1) (s2 := s2) (s3 := s3) (cw := cw) (x := x) hX
    rw [h1, h2, Option.bind_some, Option.bind_some, if_neg (by decide), if_neg (by decide), e1, e2, zlet_e, zlet_e, show nI l * 8 = nI (l * 8) from pk_mul l 8, nI_add, zald_n (by omega) (by omega), f1, Option.bind_some, pX7_word hl (zRX_W hI f2 hl) hi, Option.bind_some, zRS_w hR hl i hi]
    exact ⟨_, _, _, rfl, rfl⟩
theorem m_memory (hR : zRS (mkK st wy wg false) a used last shape dirty memory words) (hX : zRX a v0) (a1 a2 : Int32) :
    ∃ v t, fX5_memory 1 rf memory a1 a2 = some (v, t) ∧ fX7_memory th tr wh v0 a1 a2 = some (v, 0, t, -1) := by
  unfold fX5_memory fX7_memory
  rcases zPl a1 a2 with ⟨h1, h2⟩ | ⟨l, i, hl, hi, e1, e2, h1, h2⟩
  · rw [h1, h2, Option.bind_some, Option.bind_some, if_pos rfl, if_pos rfl]
    exact ⟨_, _, rfl, rfl⟩
  · rw [h1, h2, Option.bind_some, Option.bind_some, if_neg (by decide), if_neg (by decide), e1, e2]
    simp only [zlet_e]
    rw [show nI l * 8 = nI (l * 8) from pk_mul l 8, show 8 * nI l = nI (8 * l) from pk_mul 8 l, nI_add, nI_add, zald_n (by omega) (by omega), zald_n (by omega) (by omega), (hR.2 _ (by omega)).1, hX.2.1 _ (by omega), Nat.mul_comm]
    exact ⟨_, _, rfl, rfl⟩
theorem m_form (hI : zIA B a) (hR : zRS (mkK st wy wg false) a used last shape dirty memory words) (hX : zRX a v0) (a1 : Int32) :
    ∃ v t r, fX5_form 1 rf words a1 = some (v, t) ∧ fX7_form th tr wh s1 s2 s3 cw v0 x a1 = some (v, 0, t, -1, r) := by
  unfold fX5_form fX7_form
  rcases qLn a1 with ⟨h1, h2⟩ | ⟨l, hl, e1, h1, h2⟩
  · rw [h1, h2, Option.bind_some, Option.bind_some, if_pos rfl, if_pos rfl]
    exact ⟨_, _, _, rfl, rfl⟩
  · obtain ⟨y, f1, f2⟩ := pX7_works (s1 := s1) (s2 := s2) (s3 := s3) (cw := cw) (x := x) hX
    rw [h1, h2, Option.bind_some, Option.bind_some, if_neg (by decide), if_neg (by decide), e1, pX2_shortest hl (zRS_w hR hl), Option.bind_some, f1, Option.bind_some, pX7_formOf hl (zRX_W hI f2 hl), Option.bind_some]
    exact ⟨_, _, _, rfl, rfl⟩
theorem m_segments (hI : zIA B a) (hR : zRS (mkK st wy wg false) a used last shape dirty memory words) (hX : zRX a v0) (a1 : Int32) :
    ∃ v t r, fX5_segments 1 rf words a1 = some (v, t) ∧ fX7_segments th tr wh s1 s2 s3 cw v0 x a1 = some (v, 0, t, -1, r) := by
  unfold fX5_segments fX7_segments
  rcases qLn a1 with ⟨h1, h2⟩ | ⟨l, hl, e1, h1, h2⟩
  · rw [h1, h2, Option.bind_some, Option.bind_some, if_pos rfl, if_pos rfl]
    exact ⟨_, _, _, rfl, rfl⟩
  · obtain ⟨y, f1, f2⟩ := pX7_works (s1 := s1) (s2 := s2) (s3 := s3) (cw := cw) (x := x) hX
    have hf := zform_lt (aLw a l)
    rw [h1, h2, Option.bind_some, Option.bind_some, if_neg (by decide), if_neg (by decide), e1, pX2_shortest hl (zRS_w hR hl), Option.bind_some, zald_n hf (by omega), zsg_v hf, f1, Option.bind_some, pX7_segmentsOf hl (zRX_W hI f2 hl), Option.bind_some]
    exact ⟨_, _, _, rfl, rfl⟩
theorem m_bytes (hI : zIA B a) (hR : zRS (mkK st wy wg false) a used last shape dirty memory words) (hX : zRX a v0) (a1 a2 : Int32) :
    ∃ v t r, fX5_bytes 1 rf words a1 a2 = some (v, t) ∧ fX7_bytes th tr wh s1 s2 s3 cw v0 x a1 a2 = some (v, 0, t, -1, r) := by
  unfold fX5_bytes fX7_bytes fX7_refusesForm
  rcases qLn a1 with ⟨h1, h2⟩ | ⟨l, hl, e1, h1, h2⟩
  · rw [h1, h2, Option.bind_some, Option.bind_some, if_pos rfl, if_pos rfl, Option.bind_some, if_neg (by decide)]
    exact ⟨_, _, _, rfl, rfl⟩
  · rw [h1, h2, Option.bind_some, Option.bind_some, if_neg (by decide), if_neg (by decide)]
    rcases zFo a2 with ⟨g1, g2⟩ | ⟨f, hf, e2, g1, g2⟩
    · rw [g1, g2, Option.bind_some, Option.bind_some, if_pos rfl, if_pos rfl, Option.bind_some, if_neg (by decide)]
      exact ⟨_, _, _, rfl, rfl⟩
    · obtain ⟨y, f1, f2⟩ := pX7_works (s1 := s1) (s2 := s2) (s3 := s3) (cw := cw) (x := x) hX
      rw [g1, g2, Option.bind_some, Option.bind_some, if_neg (by decide), if_neg (by decide), Option.bind_some, if_pos (by decide), e1, e2, pX2_holds hl (zRS_w hR hl) hf, Option.bind_some, f1, Option.bind_some, pX7_isFit hl (zRX_W hI f2 hl) hf, Option.bind_some]
      rcases zfit_01 (aLw a l) f with q | q
      · rw [q, if_pos rfl, if_pos rfl]
        exact ⟨_, _, _, rfl, rfl⟩
      · rw [q, if_neg (by decide), if_neg (by decide), zald_n hf (by omega), zby_v hf, pX7_bytesOf hf, Option.bind_some]
        exact ⟨_, _, _, rfl, rfl⟩
theorem m_base (hI : zIA B a) (hR : zRS (mkK st wy wg false) a used last shape dirty memory words) (hX : zRX a v0) (a1 a2 : Int32) :
    ∃ v t r, fX5_base 1 rf words a1 a2 = some (v, t) ∧ fX7_base th tr wh s1 s2 s3 cw v0 x a1 a2 = some (v, 0, t, -1, r) := by
  unfold fX5_base fX7_base fX7_refusesForm
  rcases qLn a1 with ⟨h1, h2⟩ | ⟨l, hl, e1, h1, h2⟩
  · rw [h1, h2, Option.bind_some, Option.bind_some, if_pos rfl, if_pos rfl, Option.bind_some, if_neg (by decide)]
    exact ⟨_, _, _, rfl, rfl⟩
  · rw [h1, h2, Option.bind_some, Option.bind_some, if_neg (by decide), if_neg (by decide)]
    rcases zBa a2 with ⟨g1, g2⟩ | ⟨f, hf, e2, g1, g2⟩
    · rw [g1, g2, Option.bind_some, Option.bind_some, if_pos rfl, if_pos rfl, Option.bind_some, if_neg (by decide)]
      exact ⟨_, _, _, rfl, rfl⟩
    · obtain ⟨y, f1, f2⟩ := pX7_works (s1 := s1) (s2 := s2) (s3 := s3) (cw := cw) (x := x) hX
      rw [g1, g2, Option.bind_some, Option.bind_some, if_neg (by decide), if_neg (by decide), Option.bind_some, if_pos (by decide), e1, e2, pX2_baseOf hl (zRS_w hR hl) hf, Option.bind_some, f1, Option.bind_some]
      unfold fX7_good
      rw [Option.bind_some, pX7_baseOf hl (zRX_W hI f2 hl) hf, Option.bind_some]
      exact ⟨_, _, _, rfl, rfl⟩
/-- forms that fit -/
def zfc (w : Nat → Int32) : Nat → Nat → Nat → Nat
  | 0, _, c => c
  | n + 1, f, c => zfc w n (f + 1) (if zfit w f = 0 then c else c + 1)
theorem pX5_forms_loop (hR : zRS (mkK st wy wg false) a used last shape dirty memory words) {l : Nat} (hl : l < 32) {hc : Int32} : ∀ (n N f c : Nat), f + n = 8 → n < N → fX5_forms_18 hc words N (nI l) (nI c) (nI f) rf = some (nI (zfc (aLw a l) n f c), 0) := by
  intro n
  induction n with
  | zero =>
    intro N f c h hN
    obtain ⟨N, rfl⟩ : ∃ k, N = k + 1 := ⟨N - 1, by omega⟩
    rw [fX5_forms_18, if_pos (show (7 : Int32) < nI f from nI_lt (a := 7) (b := f) (by omega) (by omega))]
    rfl
  | succ n ih =>
    intro N f c h hN
    obtain ⟨N, rfl⟩ : ∃ k, N = k + 1 := ⟨N - 1, by omega⟩
    rw [fX5_forms_18, if_neg (show ¬ (7 : Int32) < nI f from nI_nlt (a := 7) (b := f) (by omega) (by omega)), pX2_holds hl (zRS_w hR hl) (by omega), Option.bind_some]
    simp only [zlet_e]
    rw [show nI f + 1 = nI (f + 1) from nI_1 _, show nI c + 1 = nI (c + 1) from nI_1 _]
    unfold zfc
    by_cases q : zfit (aLw a l) f = 0
    · rw [if_pos q, if_pos q]; exact ih N (f + 1) c (by omega) (by omega)
    · rw [if_neg q, if_neg q]; exact ih N (f + 1) (c + 1) (by omega) (by omega)
theorem pX7_forms_loop (hI : zIA B a) (hX : zRX a x) {l : Nat} (hl : l < 32) {b1 b2 b3 b4 b5 b6 b7 : Int32} {bv : Nat → Int32} : ∀ (n N f c : Nat), f + n = 8 → n < N → fX7_forms_27 b7 bv N (nI l) (nI c) (nI f) b1 b2 b3 b4 b5 b6 x = some (nI (zfc (aLw a l) n f c), b1, 0, -1, b4, b5, b6, x) := by
  intro n
  induction n with
  | zero =>
    intro N f c h hN
    obtain ⟨N, rfl⟩ : ∃ k, N = k + 1 := ⟨N - 1, by omega⟩
    rw [fX7_forms_27, if_pos (n8 (by omega) (by omega))]
    rfl
  | succ n ih =>
    intro N f c h hN
    obtain ⟨N, rfl⟩ : ∃ k, N = k + 1 := ⟨N - 1, by omega⟩
    rw [fX7_forms_27, if_neg (n8' (by omega)), pX7_isFit hl (zRX_W hI hX hl) (by omega), Option.bind_some]
    simp only [zlet_e]
    rw [show nI f + 1 = nI (f + 1) from nI_1 _, show nI c + 1 = nI (c + 1) from nI_1 _, show nI c + 0 = nI c from nI_add c 0]
    unfold zfc
    by_cases q : zfit (aLw a l) f = 0
    · rw [if_pos q, if_pos q]; exact ih N (f + 1) c (by omega) (by omega)
    · rw [if_neg q, if_neg q]; exact ih N (f + 1) (c + 1) (by omega) (by omega)
theorem m_forms (hI : zIA B a) (hR : zRS (mkK st wy wg false) a used last shape dirty memory words) (hX : zRX a v0) (a1 : Int32) :
    ∃ v t r, fX5_forms 1 rf words a1 = some (v, t) ∧ fX7_forms th tr wh s1 s2 s3 cw v0 x a1 = some (v, 0, t, -1, r) := by
  unfold fX5_forms fX7_forms
  rcases qLn a1 with ⟨h1, h2⟩ | ⟨l, hl, e1, h1, h2⟩
  · rw [h1, h2, Option.bind_some, Option.bind_some, if_pos rfl, if_pos rfl]
    exact ⟨_, _, _, rfl, rfl⟩
  · obtain ⟨y, f1, f2⟩ := pX7_works (s1 := s1) (s2 := s2) (s3 := s3) (cw := cw) (x := x) hX
    rw [h1, h2, Option.bind_some, Option.bind_some, if_neg (by decide), if_neg (by decide), e1, f1, Option.bind_some]
    exact ⟨_, _, _, pX5_forms_loop hR hl 8 zF 0 0 (by omega) (zF_gt (by omega)), pX7_forms_loop hI f2 hl 8 zF 0 0 (by omega) (zF_gt (by omega))⟩
/-- lanes that are small -/
def zmk (w : Nat → Int32) (f : Nat) : Nat → Nat → Int32 → Int32
  | 0, _, b => b
  | n + 1, k, b => zmk w f n (k + 1) (if zsm f (zlane w f k) = 0 then b else b ||| ((1 : Int32) <<< (nI k &&& 31)))
theorem zlanes_le {f : Nat} (h : 2 ≤ f ∧ f ≤ 6) : zlanes f ≤ 8 := by
  rcases f5 h with rfl | rfl | rfl | rfl | rfl <;> decide
theorem pX5_mask_loop (hR : zRS (mkK st wy wg false) a used last shape dirty memory words) {l f : Nat} (hl : l < 32) (hf : 2 ≤ f ∧ f ≤ 6) {hc : Int32} : ∀ (n N k : Nat) (b : Int32), k + n = zlanes f → n < N → fX5_mask_32 hc words N (nI l) (nI f) b (nI k) rf = some (zmk (aLw a l) f n k b, 0) := by
  have h8 := zlanes_le hf
  intro n
  induction n with
  | zero =>
    intro N k b h hN
    obtain ⟨N, rfl⟩ : ∃ k, N = k + 1 := ⟨N - 1, by omega⟩
    rw [fX5_mask_32, pX2_lanesOf hf, Option.bind_some, if_pos (nI_le (by omega) (by omega))]
    rfl
  | succ n ih =>
    intro N k b h hN
    obtain ⟨N, rfl⟩ : ∃ k, N = k + 1 := ⟨N - 1, by omega⟩
    rw [fX5_mask_32, pX2_lanesOf hf, Option.bind_some, if_neg (nI_ge (by omega) (by omega)), pX2_lane hl (zRS_w hR hl) hf (by omega), Option.bind_some, pX2_isSmall hf, Option.bind_some]
    simp only [zlet_e]
    rw [show nI k + 1 = nI (k + 1) from nI_1 _]
    unfold zmk
    by_cases q : zsm f (zlane (aLw a l) f k) = 0
    · rw [if_pos q, if_pos q]; exact ih N (k + 1) _ (by omega) (by omega)
    · rw [if_neg q, if_neg q]; exact ih N (k + 1) _ (by omega) (by omega)
theorem pX7_mask_loop (hI : zIA B a) (hX : zRX a x) {l f : Nat} (hl : l < 32) (hf : 2 ≤ f ∧ f ≤ 6) {b1 b2 b3 b4 b5 b6 b7 : Int32} {bv : Nat → Int32} : ∀ (n N k : Nat) (b : Int32), k + n = zlanes f → n < N → fX7_mask_38 b7 bv N (nI l) (nI f) b (nI k) b1 b2 b3 b4 b5 b6 x = some (zmk (aLw a l) f n k b, b1, 0, -1, b4, b5, b6, x) := by
  have h8 := zlanes_le hf
  intro n
  induction n with
  | zero =>
    intro N k b h hN
    obtain ⟨N, rfl⟩ : ∃ k, N = k + 1 := ⟨N - 1, by omega⟩
    rw [fX7_mask_38, pX7_lanesOf hf, Option.bind_some, if_pos (nI_le (by omega) (by omega))]
    rfl
  | succ n ih =>
    intro N k b h hN
    obtain ⟨N, rfl⟩ : ∃ k, N = k + 1 := ⟨N - 1, by omega⟩
    rw [fX7_mask_38, pX7_lanesOf hf, Option.bind_some, if_neg (nI_ge (by omega) (by omega)), pX7_laneOf hl (zRX_W hI hX hl) hf (by omega), Option.bind_some, pX7_isSmall hf, Option.bind_some]
    simp only [zlet_e]
    rw [show nI k + 1 = nI (k + 1) from nI_1 _, Int32.or_zero]
    unfold zmk
    by_cases q : zsm f (zlane (aLw a l) f k) = 0
    · rw [if_pos q, if_pos q]; exact ih N (k + 1) _ (by omega) (by omega)
    · rw [if_neg q, if_neg q]; exact ih N (k + 1) _ (by omega) (by omega)
theorem m_mask (hI : zIA B a) (hR : zRS (mkK st wy wg false) a used last shape dirty memory words) (hX : zRX a v0) (a1 a2 : Int32) :
    ∃ v t r, fX5_mask 1 rf words a1 a2 = some (v, t) ∧ fX7_mask th tr wh s1 s2 s3 cw v0 x a1 a2 = some (v, 0, t, -1, r) := by
  unfold fX5_mask fX7_mask fX7_refusesForm
  rcases qLn a1 with ⟨h1, h2⟩ | ⟨l, hl, e1, h1, h2⟩
  · rw [h1, h2, Option.bind_some, Option.bind_some, if_pos rfl, if_pos rfl, Option.bind_some, if_neg (by decide)]
    exact ⟨_, _, _, rfl, rfl⟩
  · rw [h1, h2, Option.bind_some, Option.bind_some, if_neg (by decide), if_neg (by decide)]
    rcases zBa a2 with ⟨g1, g2⟩ | ⟨f, hf, e2, g1, g2⟩
    · rw [g1, g2, Option.bind_some, Option.bind_some, if_pos rfl, if_pos rfl, Option.bind_some, if_neg (by decide)]
      exact ⟨_, _, _, rfl, rfl⟩
    · obtain ⟨y, f1, f2⟩ := pX7_works (s1 := s1) (s2 := s2) (s3 := s3) (cw := cw) (x := x) hX
      have h8 := zlanes_le hf
      rw [g1, g2, Option.bind_some, Option.bind_some, if_neg (by decide), if_neg (by decide), Option.bind_some, if_pos (by decide), e1, e2, f1, Option.bind_some]
      exact ⟨_, _, _, pX5_mask_loop hR hl hf (zlanes f) zF 0 0 (by omega) (zF_gt (by omega)), pX7_mask_loop hI f2 hl hf (zlanes f) zF 0 0 (by omega) (zF_gt (by omega))⟩
theorem m_difference (hI : zIA B a) (hR : zRS (mkK st wy wg false) a used last shape dirty memory words) (hX : zRX a v0) (a1 a2 a3 : Int32) :
    ∃ v t r, fX5_difference 1 rf words a1 a2 a3 = some (v, t) ∧ fX7_difference th tr wh s1 s2 s3 cw v0 x a1 a2 a3 = some (v, 0, t, -1, r) := by
  unfold fX5_difference fX7_difference fX7_refusesForm
  rcases qLn a1 with ⟨h1, h2⟩ | ⟨l, hl, e1, h1, h2⟩
  · rw [h1, h2, Option.bind_some, Option.bind_some, if_pos rfl, if_pos rfl, Option.bind_some, if_neg (by decide)]
    unfold fX7_difference_41
    rw [if_neg (by decide)]
    exact ⟨_, _, _, rfl, rfl⟩
  · rw [h1, h2, Option.bind_some, Option.bind_some, if_neg (show ¬ (1 : Int32) = 0 by decide), if_neg (show ¬ (1 : Int32) = 0 by decide)]
    rcases zBa a2 with ⟨g1, g2⟩ | ⟨f, hf, e2, g1, g2⟩
    · rw [g1, g2, Option.bind_some, Option.bind_some, if_pos (show (0 : Int32) = 0 from rfl), if_pos (show (0 : Int32) = 0 from rfl), Option.bind_some, if_neg (show ¬ (2 : Int32) = 0 by decide)]
      unfold fX7_difference_41
      rw [if_neg (by decide)]
      exact ⟨_, _, _, rfl, rfl⟩
    · have h8 := zlanes_le hf
      have h1l : 1 ≤ zlanes f := by rcases f5 hf with rfl | rfl | rfl | rfl | rfl <;> decide
      rw [g1, g2, Option.bind_some, Option.bind_some, if_neg (show ¬ (1 : Int32) = 0 by decide), if_neg (show ¬ (1 : Int32) = 0 by decide), Option.bind_some, if_pos (show (0 : Int32) = 0 from rfl), e1, e2, pX7_lanesOf hf, Option.bind_some, zlet_e, pX2_lanesOf hf, Option.bind_some]
      unfold fX7_in
      rcases pk_ix a3 (n := zlanes f) (by omega) with q | q | ⟨k, hk, e3⟩
      · rw [if_pos q, if_pos q, Option.bind_some, if_pos rfl]
        unfold fX7_difference_41 fX5_difference_41
        rw [if_neg (by decide)]
        exact ⟨_, _, _, rfl, rfl⟩
      · by_cases c : a3 < 0
        · rw [if_pos c, if_pos c, Option.bind_some, if_pos rfl]
          unfold fX7_difference_41 fX5_difference_41
          rw [if_neg (by decide)]
          exact ⟨_, _, _, rfl, rfl⟩
        · have q2 : ¬ a3 < nI (zlanes f) := Int32.not_lt.mpr q
          have q3 : nI (zlanes f) - 1 < a3 := by
            obtain ⟨j, hj, e⟩ := nI_of c
            rw [e, nI_leI (by omega) hj] at q
            rw [e, show nI (zlanes f) - 1 = nI (zlanes f - 1) from pk_sub (a := zlanes f) (b := 1) h1l]
            exact nI_lt (by omega) hj
          rw [if_neg c, if_neg c, if_neg q2, if_pos q3, Option.bind_some, if_pos rfl]
          unfold fX7_difference_41 fX5_difference_41
          rw [if_neg (by decide)]
          exact ⟨_, _, _, rfl, rfl⟩
      · obtain ⟨y, f1, f2⟩ := pX7_works (s1 := s1) (s2 := s2) (s3 := s3) (cw := cw) (x := x) hX
        have c : ¬ nI k < 0 := nI_pos (by omega)
        rw [e3, if_neg c, if_neg c, if_pos (nI_lt hk (by omega)), if_neg (show ¬ nI (zlanes f) - 1 < nI k by rw [show nI (zlanes f) - 1 = nI (zlanes f - 1) from pk_sub (a := zlanes f) (b := 1) h1l]; exact nI_nlt (by omega) (by omega)), Option.bind_some, if_neg (by decide)]
        unfold fX7_difference_41
        rw [if_pos (by decide), f1, Option.bind_some]
        unfold fX7_good
        rw [Option.bind_some, pX7_differenceOf hl (zRX_W hI f2 hl) hf hk, Option.bind_some, pX2_lane hl (zRS_w hR hl) hf hk, Option.bind_some, pX2_isSmall hf, Option.bind_some, pX2_baseOf hl (zRS_w hR hl) hf, Option.bind_some, zlet_e]
        unfold zdif
        by_cases z : zsm f (zlane (aLw a l) f k) = 0
        · rw [if_pos z, if_pos z]; exact ⟨_, _, _, rfl, rfl⟩
        · rw [if_neg z, if_neg z]; exact ⟨_, _, _, rfl, rfl⟩
/-- lines of a form -/
def zlo (a : zA) (f : Nat) : Nat → Nat → Nat → Nat
  | 0, _, c => c
  | n + 1, l, c => zlo a f n (l + 1) (if zform (aLw a l) = f then c + 1 else c)
theorem pX5_linesOf_loop (hR : zRS (mkK st wy wg false) a used last shape dirty memory words) {f : Nat} (hf : f < 8) {hc : Int32} : ∀ (n N l c : Nat), l + n = 32 → n < N → fX5_linesOf_30 hc words N (nI f) (nI c) (nI l) rf = some (nI (zlo a f n l c), 0) := by
  intro n
  induction n with
  | zero =>
    intro N l c h hN
    obtain ⟨N, rfl⟩ : ∃ k, N = k + 1 := ⟨N - 1, by omega⟩
    rw [fX5_linesOf_30, if_pos (n32 (by omega) (by omega))]
    rfl
  | succ n ih =>
    intro N l c h hN
    obtain ⟨N, rfl⟩ : ∃ k, N = k + 1 := ⟨N - 1, by omega⟩
    have hz := zform_lt (aLw a l)
    rw [fX5_linesOf_30, if_neg (n32' (by omega)), pX2_shortest (show l < 32 by omega) (zRS_w hR (by omega)), Option.bind_some]
    simp only [zlet_e]
    rw [show nI l + 1 = nI (l + 1) from nI_1 _, show nI c + 1 = nI (c + 1) from nI_1 _]
    unfold zlo
    by_cases q : zform (aLw a l) = f
    · rw [if_pos (by rw [q]), if_pos q]; exact ih N (l + 1) (c + 1) (by omega) (by omega)
    · rw [if_neg (fun z => q ((nI_eq (by omega) (by omega)).mp z)), if_neg q]; exact ih N (l + 1) c (by omega) (by omega)
theorem pX7_linesOf_loop (hI : zIA B a) (hX : zRX a x) {f : Nat} (hf : f < 8) {b1 b2 b3 b4 b5 b6 b7 : Int32} {bv : Nat → Int32} : ∀ (n N l c : Nat), l + n = 32 → n < N → fX7_linesOf_44 b7 bv N (nI f) (nI c) (nI l) b1 b2 b3 b4 b5 b6 x = some (nI (zlo a f n l c), b1, 0, -1, b4, b5, b6, x) := by
  intro n
  induction n with
  | zero =>
    intro N l c h hN
    obtain ⟨N, rfl⟩ : ∃ k, N = k + 1 := ⟨N - 1, by omega⟩
    rw [fX7_linesOf_44, if_pos (n32 (by omega) (by omega))]
    rfl
  | succ n ih =>
    intro N l c h hN
    obtain ⟨N, rfl⟩ : ∃ k, N = k + 1 := ⟨N - 1, by omega⟩
    have hz := zform_lt (aLw a l)
    rw [fX7_linesOf_44, if_neg (n32' (by omega)), pX7_formOf (show l < 32 by omega) (zRX_W hI hX (by omega)), Option.bind_some]
    simp only [zlet_e]
    rw [show nI l + 1 = nI (l + 1) from nI_1 _, show nI c + 1 = nI (c + 1) from nI_1 _, show nI c + 0 = nI c from nI_add c 0]
    unfold zlo
    by_cases q : zform (aLw a l) = f
    · rw [if_pos (by rw [q]), if_pos q]; exact ih N (l + 1) (c + 1) (by omega) (by omega)
    · rw [if_neg (fun z => q ((nI_eq (by omega) (by omega)).mp z)), if_neg q]; exact ih N (l + 1) c (by omega) (by omega)
theorem m_linesOf (hI : zIA B a) (hR : zRS (mkK st wy wg false) a used last shape dirty memory words) (hX : zRX a v0) (a1 : Int32) :
    ∃ v t r, fX5_linesOf 1 rf words a1 = some (v, t) ∧ fX7_linesOf th tr wh s1 s2 s3 cw v0 x a1 = some (v, 0, t, -1, r) := by
  unfold fX5_linesOf fX7_linesOf fX7_refusesForm
  rw [if_neg (show ¬ (1 : Int32) = 0 by decide), if_neg (show ¬ (1 : Int32) = 0 by decide)]
  rcases zFo a1 with ⟨g1, g2⟩ | ⟨f, hf, e2, g1, g2⟩
  · rw [g1, g2, Option.bind_some, Option.bind_some, if_pos rfl, if_pos rfl, Option.bind_some, if_neg (by decide)]
    exact ⟨_, _, _, rfl, rfl⟩
  · obtain ⟨y, f1, f2⟩ := pX7_works (s1 := s1) (s2 := s2) (s3 := s3) (cw := cw) (x := x) hX
    rw [g1, g2, Option.bind_some, Option.bind_some, if_neg (by decide), if_neg (by decide), Option.bind_some, if_pos (by decide), e2, f1, Option.bind_some]
    exact ⟨_, _, _, pX5_linesOf_loop hR hf 32 zF 0 0 (by omega) (zF_gt (by omega)), pX7_linesOf_loop hI f2 hf 32 zF 0 0 (by omega) (zF_gt (by omega))⟩
end Q1
