/-! ===== the questions of sets and tags, both sides ===== -/
theorem qSt {st : Nat} (h4 : st ≤ 4) (a1 : Int32) : (fX5_isSet 1 (nI st) a1 = some 0 ∧ fX7_isSet (nI st) a1 = some 0) ∨ ∃ s, s < st ∧ a1 = nI s ∧ fX5_isSet 1 (nI st) a1 = some 1 ∧ fX7_isSet (nI st) a1 = some 1 := by
  unfold fX5_isSet fX7_isSet
  rw [if_neg (show ¬ (1 : Int32) = 0 by decide)]
  rcases pk_ix a1 (n := st) (by omega) with h | h | ⟨l, hl, e⟩
  · rw [if_pos h]; exact Or.inl ⟨rfl, rfl⟩
  · by_cases c : a1 < 0
    · rw [if_pos c]; exact Or.inl ⟨rfl, rfl⟩
    · rw [if_neg c, if_pos h]; exact Or.inl ⟨rfl, rfl⟩
  · refine Or.inr ⟨l, hl, e, ?_⟩
    rw [e, if_neg (nI_pos (by omega)), if_neg (nI_ge hl (by omega))]
    exact ⟨rfl, rfl⟩
theorem qIn3 (a2 : Int32) : (¬ a2 = 0 ∧ ¬ a2 = 1 ∧ ¬ a2 = 2 ∧ ¬ a2 = 3 ∧ fX7_in a2 0 3 = some 0) ∨ ((a2 = 0 ∨ a2 = 1 ∨ a2 = 2 ∨ a2 = 3) ∧ fX7_in a2 0 3 = some 1) := by
  unfold fX7_in
  rcases pk_ix a2 (n := 4) (by omega) with h | h | ⟨f, hf, e⟩
  · rw [if_pos h]
    refine Or.inl ⟨?_, ?_, ?_, ?_, rfl⟩ <;> (intro z; rw [z] at h; exact absurd h (by decide))
  · have h' : (4 : Int32) ≤ a2 := h
    rw [i_le] at h'
    have e1 : (4 : Int32).toInt = 4 := rfl
    have n0 : ¬ a2 < 0 := fun z => by rw [i_lt] at z; have : (0 : Int32).toInt = 0 := rfl; omega
    have n3 : (3 : Int32) < a2 := by rw [i_lt]; have : (3 : Int32).toInt = 3 := rfl; omega
    rw [if_neg n0, if_pos n3]
    refine Or.inl ⟨?_, ?_, ?_, ?_, rfl⟩ <;> (intro z; rw [z] at h; exact absurd h (by decide))
  · refine Or.inr ⟨?_, ?_⟩
    · rcases (show f = 0 ∨ f = 1 ∨ f = 2 ∨ f = 3 by omega) with rfl | rfl | rfl | rfl
      · exact Or.inl e
      · exact Or.inr (Or.inl e)
      · exact Or.inr (Or.inr (Or.inl e))
      · exact Or.inr (Or.inr (Or.inr e))
    · rw [e, if_neg (nI_pos (by omega)), if_neg (show ¬ (3 : Int32) < nI f from nI_nlt (a := 3) (b := f) (by omega) (by omega))]
theorem qWd (a3 : Int32) : (fX5_isWord a3 = some 0 ∧ fX7_in a3 0 65535 = some 0) ∨ ∃ w, w < 65536 ∧ a3 = nI w ∧ fX5_isWord a3 = some 1 ∧ fX7_in a3 0 65535 = some 1 := by
  unfold fX5_isWord fX7_in
  rcases pk_ix a3 (n := 65536) (by omega) with h | h | ⟨f, hf, e⟩
  · rw [if_pos h, if_pos h]; exact Or.inl ⟨rfl, rfl⟩
  · by_cases c : a3 < 0
    · rw [if_pos c, if_pos c]; exact Or.inl ⟨rfl, rfl⟩
    · have h' : (65536 : Int32) ≤ a3 := h
      have h7 : (65535 : Int32) < a3 := by
        rw [i_le] at h'
        rw [i_lt]
        have e1 : (65536 : Int32).toInt = 65536 := rfl
        have e2 : (65535 : Int32).toInt = 65535 := rfl
        omega
      rw [if_neg c, if_neg c, if_pos h', if_pos h7]; exact Or.inl ⟨rfl, rfl⟩
  · refine Or.inr ⟨f, hf, e, ?_⟩
    rw [e, if_neg (nI_pos (by omega)), if_neg (nI_pos (by omega)), if_neg (show ¬ (65536 : Int32) ≤ nI f from nI_ge (a := f) (b := 65536) hf (by omega)), if_neg (show ¬ (65535 : Int32) < nI f from nI_nlt (a := 65535) (b := f) (by omega) (by omega))]
    exact ⟨rfl, rfl⟩
section Q2
variable {st wy : Nat} {wg : Bool} {B : Nat} {a : zA} {used last shape dirty memory words v0 x od : Nat → Int32} {rf th tr wh s1 s2 s3 s4 cw : Int32}
theorem pX3_dirtyIn_loop (hR : zRS (mkK st wy wg false) a used last shape dirty memory words) {ss : Int32} (h4 : st ≤ 4) (h0 : 0 < st) : ∀ (m N i c : Nat), 32 ≤ i + m → m < N → i ≤ 40 → fX3_dirtyIn_14 ss dirty N (nI st) (nI c) (nI i) = some (nI (c + ((zlin st m i).map (aD a)).sum)) := by
  intro m
  induction m with
  | zero =>
    intro N i c h hN hi
    obtain ⟨N, rfl⟩ : ∃ k, N = k + 1 := ⟨N - 1, by omega⟩
    rw [fX3_dirtyIn_14, if_pos (n32 (by omega) (by omega))]
    simp [zlin]
  | succ m ih =>
    intro N i c h hN hi
    obtain ⟨N, rfl⟩ : ∃ k, N = k + 1 := ⟨N - 1, by omega⟩
    rw [fX3_dirtyIn_14]
    unfold zlin
    by_cases hlt : i < 32
    · rw [if_neg (n32' hlt), zald_n hlt (by omega), (hR.1 i hlt).2.1, zlet_e, zlet_e, nI_add, nI_add, ih N (i + st) (c + aD a i) (by omega) (by omega) (by omega), if_pos hlt]
      simp
      congr 1
      omega
    · rw [if_pos (n32 (by omega) (by omega)), if_neg hlt]
      simp
theorem pX7_dirtyIn_loop (hX : zRX a x) (h4 : st ≤ 4) (h0 : 0 < st) : ∀ (m N i c : Nat), 32 ≤ i + m → m < N → i ≤ 40 → fX7_dirtyIn_4 (nI st) x N (nI c) (nI i) = some (nI (c + ((zlin st m i).map (aD a)).sum)) := by
  intro m
  induction m with
  | zero =>
    intro N i c h hN hi
    obtain ⟨N, rfl⟩ : ∃ k, N = k + 1 := ⟨N - 1, by omega⟩
    rw [fX7_dirtyIn_4, if_pos (n32 (by omega) (by omega))]
    simp [zlin]
  | succ m ih =>
    intro N i c h hN hi
    obtain ⟨N, rfl⟩ : ∃ k, N = k + 1 := ⟨N - 1, by omega⟩
    rw [fX7_dirtyIn_4]
    unfold zlin
    by_cases hlt : i < 32
    · rw [if_neg (n32' hlt), zlet_e, show (576 : Int32) + nI i = nI (576 + i) from nI_add 576 i, zald_n (by omega) (by omega), (hX.1 i hlt).2.1, zlet_e, zlet_e, nI_add, nI_add, ih N (i + st) (c + aD a i) (by omega) (by omega) (by omega), if_pos hlt]
      simp
      congr 1
      omega
    · rw [if_pos (n32 (by omega) (by omega)), if_neg hlt]
      simp
theorem m_set (hsw : zSW st wy) (hI : zIA B a) (hR : zRS (mkK st wy wg false) a used last shape dirty memory words) (hX : zRX a v0) (a1 a2 : Int32) :
    ∃ v t r, fX5_set 1 rf (nI st) (nI wy) (nI st) dirty shape used a1 a2 = some (v, t) ∧ fX7_set th tr wh s1 s2 s3 (nI st) (nI wy) v0 x a1 a2 = some (v, 0, t, -1, r) := by
  have h0 := hsw.1
  have h4 := hsw.2.1
  have hk : zKok (mkK st wy wg false) := mkK_ok hsw
  unfold fX5_set fX7_set
  rcases qSt hsw.2.1 a1 with ⟨h1, h2⟩ | ⟨s, hs, e1, h1, h2⟩
  · rw [h1, h2, Option.bind_some, Option.bind_some, if_pos rfl, if_pos rfl]
    exact ⟨_, _, _, rfl, rfl⟩
  · rw [h1, h2, Option.bind_some, Option.bind_some, if_neg (show ¬ (1 : Int32) = 0 by decide), if_neg (show ¬ (1 : Int32) = 0 by decide)]
    rcases qIn3 a2 with ⟨c0, c1, c2, c3, c4⟩ | ⟨c0, c4⟩
    · rw [c4, Option.bind_some, if_pos rfl, if_neg c0, if_neg c1, if_neg c2, if_neg c3]
      exact ⟨_, _, _, rfl, rfl⟩
    · obtain ⟨y, f1, f2⟩ := pX7_works (s1 := s1) (s2 := s2) (s3 := s3) (cw := nI wy) (x := x) hX
      have t1 : fX3_tagsIn (nI st) used (nI s) (-1) = some (nI (aTags (mkK st wy wg false) a s 99)) := pX3_tags hI hk hR zBut_m hs
      have t2 : fX3_segmentsIn (nI st) shape used (nI s) (-1) = some (nI (aTak (mkK st wy wg false) a s 99)) := pX3_segs hI hk hR zBut_m hs
      have t3 := pX7_tags (wg := wg) hI hsw f2 hs
      have t4 := pX7_taken (wg := wg) hI hsw f2 hs
      rw [c4, Option.bind_some, if_neg (show ¬ (1 : Int32) = 0 by decide), f1, Option.bind_some, e1]
      rcases c0 with e | e | e | e
      · rw [e, if_pos rfl, if_pos rfl, t1, Option.bind_some, t3, Option.bind_some]
        exact ⟨_, _, _, rfl, rfl⟩
      · rw [e, if_neg (show ¬ (1 : Int32) = 0 by decide), if_neg (show ¬ (1 : Int32) = 0 by decide), if_pos rfl, if_pos rfl, t2, Option.bind_some, t4, Option.bind_some]
        exact ⟨_, _, _, rfl, rfl⟩
      · rw [e, if_neg (show ¬ (2 : Int32) = 0 by decide), if_neg (show ¬ (2 : Int32) = 1 by decide), if_pos rfl, if_neg (show ¬ (2 : Int32) = 0 by decide), if_neg (show ¬ (2 : Int32) = 1 by decide), if_pos rfl]
        unfold fX3_dirtyIn fX7_dirtyIn
        rw [pX3_stride h0 h4, zlet_e]
        have u1 := pX3_dirtyIn_loop (ss := nI st) hR h4 h0 32 zF s 0 (by omega) (zF_gt (by omega)) (by omega)
        have u2 := pX7_dirtyIn_loop (st := st) f2 h4 h0 32 zF s 0 (by omega) (zF_gt (by omega)) (by omega)
        rw [show nI 0 = (0 : Int32) from rfl] at u1 u2
        rw [u1, Option.bind_some, u2, Option.bind_some]
        exact ⟨_, _, _, rfl, rfl⟩
      · rw [e, if_neg (show ¬ (3 : Int32) = 0 by decide), if_neg (show ¬ (3 : Int32) = 1 by decide), if_neg (show ¬ (3 : Int32) = 2 by decide), if_pos rfl, if_neg (show ¬ (3 : Int32) = 0 by decide), if_neg (show ¬ (3 : Int32) = 1 by decide), if_neg (show ¬ (3 : Int32) = 2 by decide)]
        unfold fX3_segmentRoom
        rw [zlet_e, Option.bind_some, t2, Option.bind_some, zlet_e, zlet_e, t4, Option.bind_some, zlet_e]
        exact ⟨_, _, _, rfl, rfl⟩
theorem m_isCached (hI : zIA B a) (hR : zRS (mkK st wy wg false) a used last shape dirty memory words) (hX : zRX a v0) (a1 : Int32) :
    ∃ v t, fX5_isCached 1 rf used a1 = some (v, t) ∧ fX7_isCached th tr wh v0 a1 = some (v, 0, t, -1) := by
  unfold fX5_isCached fX7_isCached
  rcases qLn a1 with ⟨h1, h2⟩ | ⟨l, hl, e1, h1, h2⟩
  · rw [h1, h2, Option.bind_some, Option.bind_some, if_pos rfl, if_pos rfl]
    exact ⟨_, _, rfl, rfl⟩
  · rw [h1, h2, Option.bind_some, Option.bind_some, if_neg (show ¬ (1 : Int32) = 0 by decide), if_neg (show ¬ (1 : Int32) = 0 by decide), e1, zald_n hl (by omega), zlet_e, show (512 : Int32) + nI l = nI (512 + l) from nI_add 512 l, zald_n (by omega) (by omega), (hR.1 l hl).1, (hX.1 l hl).1]
    by_cases c : nI (aU a l) ≤ 0
    · rw [if_pos c, if_pos c]; exact ⟨_, _, rfl, rfl⟩
    · rw [if_neg c, if_neg c]; exact ⟨_, _, rfl, rfl⟩
theorem m_victim (hsw : zSW st wy) (hI : zIA B a) (hR : zRS (mkK st wy wg false) a used last shape dirty memory words) (hX : zRX a v0) (a1 : Int32) :
    ∃ v t r, fX5_victim 1 rf (nI st) (nI (zbn wg)) (nI st) last shape used a1 = some (v, t) ∧ fX7_victim th tr wh s1 s2 s3 s4 (nI st) cw (nI (zbn wg)) od v0 x a1 = some (v, 0, t, -1, r) := by
  have hk : zKok (mkK st wy wg false) := mkK_ok hsw
  unfold fX5_victim fX7_victim
  rcases qSt hsw.2.1 a1 with ⟨h1, h2⟩ | ⟨s, hs, e1, h1, h2⟩
  · rw [h1, h2, Option.bind_some, Option.bind_some, if_pos rfl, if_pos rfl]
    exact ⟨_, _, _, rfl, rfl⟩
  · obtain ⟨y, f1, f2⟩ := pX7_works (s1 := s1) (s2 := s2) (s3 := s3) (cw := cw) (x := x) hX
    have t1 : fX3_nextVictim (nI st) (nI (zbn wg)) last shape used (nI s) (-1) = some (zov (-1) (aVic (mkK st wy wg false) a s 99)) := pX3_victim hI hk hR zBut_m hs
    obtain ⟨o2, od2, t2⟩ := pX7_victimOf (wg := wg) (o := s4) (od := od) hI hsw f2 zBut_2 hs
    rw [h1, h2, Option.bind_some, Option.bind_some, if_neg (show ¬ (1 : Int32) = 0 by decide), if_neg (show ¬ (1 : Int32) = 0 by decide), e1, t1, Option.bind_some, f1, Option.bind_some, t2, Option.bind_some]
    cases e : aVic (mkK st wy wg false) a s 99 with
    | none =>
      rw [if_neg (show ¬ (0 : Int32) ≤ zov (-1) none by decide)]
      exact ⟨_, _, _, rfl, rfl⟩
    | some q =>
      have hq := (aVic_in e).1
      rw [if_pos (show (0 : Int32) ≤ zov (-1) (some q) from nI_pos' (by omega))]
      exact ⟨_, _, _, rfl, rfl⟩
theorem m_makesRoom (hsw : zSW st wy) (hI : zIA B a) (hC : aC a + 1 ≤ B) (hT : zIT (mkK st wy wg false) a) (hR : zRS (mkK st wy wg false) a used last shape dirty memory words) (hX : zRX a v0) {u1 u2 u3 u4 u5 u6 u7 u8 : Int32} {t1 t2 t3 t4 t5 t6 : Nat → Int32} (a1 : Int32) :
    ∃ v t r r2, fX5_makesRoom 1 rf (nI st) (nI wy) (nI (zbn wg)) (nI (zbn false)) (nI (aC a)) u1 u2 u3 u4 u5 u6 u7 u8 dirty last memory shape used words t1 t2 t3 t4 t5 t6 a1 = some (v, t, r) ∧ fX7_makesRoom th tr wh s1 s2 s3 s4 (nI st) (nI wy) (nI (zbn wg)) od v0 x a1 = some (v, 0, t, -1, r2) := by
  unfold fX5_makesRoom fX7_makesRoom
  rcases qLn a1 with ⟨h1, h2⟩ | ⟨l, hl, e1, h1, h2⟩
  · rw [h1, h2, Option.bind_some, Option.bind_some, if_pos rfl, if_pos rfl]
    exact ⟨_, _, _, _, rfl, rfl⟩
  · obtain ⟨y, f1, f2⟩ := pX7_works (s1 := s1) (s2 := s2) (s3 := s3) (cw := nI wy) (x := x) hX
    obtain ⟨d, la, m, sh, u, ws, g1, g2⟩ := pX3_copyOf (st := nI st) (wy := nI wy) (cl := nI (aC a)) (wg := wg) (pl := false) (s1 := u1) (s2 := u2) (s3 := u3) (s4 := u4) (s5 := u5) (s6 := u6) (s7 := u7) (s8 := u8) (used' := t5) (last' := t2) (shape' := t4) (dirty' := t1) (memory' := t3) (words' := t6) hR
    obtain ⟨d2, la2, m2, sh2, w2, ws2, k1, k2, k3, k4⟩ := pX3_use (v := 0) (b := 0) (h := 0) (sp := l * 8) (wo := none) hsw (by omega) hI hC g2 (fun w z => by cases z)
    obtain ⟨o2, od2, y2, n1, n2, n3⟩ := pX7_uses (wg := wg) (v := 0) (b := 0) (o := s4) (od := od) hsw hl hI hC f2 hT
    have hv : (aUse (mkK st wy wg false) a (l * 8) none 0 0).2.1 = (aMiss (mkK st wy wg false) a l 0 0).2.1 := by
      show (aMiss (mkK st wy wg false) a (l * 8 / 8) 0 0).2.1 = _
      rw [Nat.mul_div_cancel _ (by decide)]
    rw [h1, h2, Option.bind_some, Option.bind_some, if_neg (show ¬ (1 : Int32) = 0 by decide), if_neg (show ¬ (1 : Int32) = 0 by decide), e1, g1, Option.bind_some, zlet_e, show nI l * 8 = nI (l * 8) from pk_mul l 8]
    rw [show zov (-1) none = (-1 : Int32) from rfl, show nI 0 = (0 : Int32) from rfl] at k1
    rw [show nI 0 = (0 : Int32) from rfl] at n1
    rw [k1, Option.bind_some, f1, Option.bind_some]
    rw [n1, Option.bind_some, hv]
    exact ⟨_, _, _, _, rfl, rfl⟩
theorem m_growsOver (hsw : zSW st wy) (hI : zIA B a) (hC : aC a + 1 ≤ B) (hT : zIT (mkK st wy wg false) a) (hR : zRS (mkK st wy wg false) a used last shape dirty memory words) (hX : zRX a v0) {u1 u2 u3 u4 u5 u6 u7 u8 : Int32} {t1 t2 t3 t4 t5 t6 : Nat → Int32} (a1 a2 a3 : Int32) :
    ∃ v t r r2, fX5_growsOver 1 rf (nI st) (nI wy) (nI (zbn wg)) (nI (zbn false)) (nI (aC a)) u1 u2 u3 u4 u5 u6 u7 u8 dirty last memory shape used words t1 t2 t3 t4 t5 t6 a1 a2 a3 = some (v, t, r) ∧ fX7_growsOver th tr wh s1 s2 s3 s4 (nI st) (nI wy) (nI (zbn wg)) od v0 x a1 a2 a3 = some (v, 0, t, -1, r2) := by
  unfold fX5_growsOver fX7_growsOver
  rcases zPl a1 a2 with ⟨h1, h2⟩ | ⟨l, i, hl, hi, e1, e2, h1, h2⟩
  · rw [h1, h2, Option.bind_some, Option.bind_some, if_pos rfl, if_pos rfl]
    exact ⟨_, _, _, _, rfl, rfl⟩
  · rw [h1, h2, Option.bind_some, Option.bind_some, if_neg (show ¬ (1 : Int32) = 0 by decide), if_neg (show ¬ (1 : Int32) = 0 by decide)]
    rcases qWd a3 with ⟨h3, h4⟩ | ⟨w, hw, e3, h3, h4⟩
    · rw [h3, h4, Option.bind_some, Option.bind_some, if_pos rfl, if_pos rfl]
      exact ⟨_, _, _, _, rfl, rfl⟩
    · obtain ⟨y, f1, f2⟩ := pX7_works (s1 := s1) (s2 := s2) (s3 := s3) (cw := nI wy) (x := x) hX
      obtain ⟨d, la, m, sh, u, ws, g1, g2⟩ := pX3_copyOf (st := nI st) (wy := nI wy) (cl := nI (aC a)) (wg := wg) (pl := false) (s1 := u1) (s2 := u2) (s3 := u3) (s4 := u4) (s5 := u5) (s6 := u6) (s7 := u7) (s8 := u8) (used' := t5) (last' := t2) (shape' := t4) (dirty' := t1) (memory' := t3) (words' := t6) hR
      obtain ⟨d2, la2, m2, sh2, w2, ws2, k1, k2, k3, k4⟩ := pX3_use (v := 0) (b := 0) (h := 0) (sp := l * 8 + i) (wo := some w) hsw (by omega) hI hC g2 (fun w' z => by cases z; exact hw)
      obtain ⟨o2, od2, y2, n1, n2⟩ := pX7_puts (wg := wg) (sp := l * 8 + i) (w := w) (v := 0) (b := 0) (o := s4) (od := od) hsw (by omega) hw hI hC f2 hT
      rw [show (l * 8 + i) / 8 = l by omega, show (l * 8 + i) % 8 = i by omega] at n1
      rw [h3, h4, Option.bind_some, Option.bind_some, if_neg (show ¬ (1 : Int32) = 0 by decide), if_neg (show ¬ (1 : Int32) = 0 by decide), e1, e2, e3, g1, Option.bind_some, zlet_e, zlet_e, show nI l * 8 = nI (l * 8) from pk_mul l 8, nI_add]
      rw [show zov (-1) (some w) = nI w from rfl, show nI 0 = (0 : Int32) from rfl] at k1
      rw [show nI 0 = (0 : Int32) from rfl] at n1
      rw [k1, Option.bind_some, f1, Option.bind_some]
      rw [n1, Option.bind_some]
      exact ⟨_, _, _, _, rfl, rfl⟩
theorem m_cached (hsw : zSW st wy) (hI : zIA B a) (hR : zRS (mkK st wy wg false) a used last shape dirty memory words) (hX : zRX a v0) (a1 a2 : Int32) :
    ∃ v t r, fX5_cached 1 rf (nI st) dirty last used a1 a2 = some (v, t) ∧ fX7_cached th tr wh s1 s2 s3 s4 (nI st) (nI wy) od v0 x a1 a2 = some (v, 0, t, -1, r) := by
  unfold fX5_cached fX7_cached
  rcases qLn a1 with ⟨h1, h2⟩ | ⟨l, hl, e1, h1, h2⟩
  · rw [h1, h2, Option.bind_some, Option.bind_some, if_pos rfl, if_pos rfl]
    exact ⟨_, _, _, rfl, rfl⟩
  · have hb := (hI.1 l hl).2.2.2.1
    have hB := hI.2.2.2
    rw [h1, h2, Option.bind_some, Option.bind_some, if_neg (show ¬ (1 : Int32) = 0 by decide), if_neg (show ¬ (1 : Int32) = 0 by decide), e1, zald_n hl (by omega), zlet_e, show (512 : Int32) + nI l = nI (512 + l) from nI_add 512 l, zald_n (f := v0) (by omega) (by omega), (hR.1 l hl).1, (hX.1 l hl).1]
    by_cases c : aU a l = 0
    · rw [if_pos (show nI (aU a l) = 0 by rw [c]; rfl), if_pos (show nI (aU a l) = 0 by rw [c]; rfl)]
      exact ⟨_, _, _, rfl, rfl⟩
    · have hu : 0 < aU a l := by omega
      have c' : ¬ nI (aU a l) = 0 := nI_ne0 hu (by omega)
      rw [if_neg c', if_neg c']
      rcases qIn3 a2 with ⟨c0, c1, c2, c3, c4⟩ | ⟨c0, c4⟩
      · rw [c4, Option.bind_some, if_pos rfl, if_neg c0, if_neg c1, if_neg c2, if_neg c3]
        exact ⟨_, _, _, rfl, rfl⟩
      · obtain ⟨y, f1, f2⟩ := pX7_works (s1 := s1) (s2 := s2) (s3 := s3) (cw := nI wy) (x := x) hX
        rw [c4, Option.bind_some, if_neg (show ¬ (1 : Int32) = 0 by decide), f1, Option.bind_some]
        rcases c0 with e | e | e | e
        · rw [e, if_pos rfl, if_pos rfl, pX3_setOf hsw.1 hsw.2.1 hl, Option.bind_some, pX7_setOf hsw.1 hsw.2.1 hl, Option.bind_some]
          exact ⟨_, _, _, rfl, rfl⟩
        · rw [e, if_neg (show ¬ (1 : Int32) = 0 by decide), if_neg (show ¬ (1 : Int32) = 0 by decide), if_pos rfl, if_pos rfl, zald_n hl (by omega), zlet_e, zald_n (f := y) (by omega) (by omega), (hR.1 l hl).1, (f2.1 l hl).1]
          exact ⟨_, _, _, rfl, rfl⟩
        · rw [e, if_neg (show ¬ (2 : Int32) = 0 by decide), if_neg (show ¬ (2 : Int32) = 1 by decide), if_pos rfl, if_neg (show ¬ (2 : Int32) = 0 by decide), if_neg (show ¬ (2 : Int32) = 1 by decide), if_pos rfl, zald_n hl (by omega), zlet_e, show (576 : Int32) + nI l = nI (576 + l) from nI_add 576 l, zald_n (f := y) (by omega) (by omega), (hR.1 l hl).2.1, (f2.1 l hl).2.1]
          exact ⟨_, _, _, rfl, rfl⟩
        · obtain ⟨o2, od2, n1⟩ := pX7_since (wg := wg) (o := s4) (od := od) hI hsw f2 hl hu
          rw [e, if_neg (show ¬ (3 : Int32) = 0 by decide), if_neg (show ¬ (3 : Int32) = 1 by decide), if_neg (show ¬ (3 : Int32) = 2 by decide), if_pos rfl, if_neg (show ¬ (3 : Int32) = 0 by decide), if_neg (show ¬ (3 : Int32) = 1 by decide), if_neg (show ¬ (3 : Int32) = 2 by decide), pX3_usedSince hI hsw hR hl hu, Option.bind_some, n1, Option.bind_some]
          exact ⟨_, _, _, rfl, rfl⟩
end Q2
