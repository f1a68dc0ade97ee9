theorem zadd_or (a : Int64) {j : Nat} (hj : j < 65536) : (a <<< (Int32.toInt64 16 &&& 63)) + Int32.toInt64 (nI j) = (a <<< (Int32.toInt64 16 &&& 63)) ||| Int32.toInt64 (nI j) := by
  apply Int64.toBitVec_inj.mp
  rw [Int64.toBitVec_add, Int64.toBitVec_or]
  apply BitVec.add_eq_or_of_and_eq_zero
  have h1 : (a <<< (Int32.toInt64 16 &&& 63)).toBitVec = a.toBitVec <<< 16 := by
    rw [Int64.toBitVec_shiftLeft]
    rfl
  have h2 : (Int32.toInt64 (nI j)).toBitVec = BitVec.ofNat 64 j := by
    rw [nI_l (by omega)]
    rfl
  rw [h1, h2]
  apply BitVec.eq_of_getLsbD_eq
  intro i hi
  rw [BitVec.getLsbD_and, BitVec.getLsbD_shiftLeft, BitVec.getLsbD_ofNat]
  by_cases c : i < 16
  · simp [c]
  · have : j.testBit i = false := Nat.testBit_lt_two_pow (Nat.lt_of_lt_of_le hj (by
      show 2 ^ 16 ≤ 2 ^ i
      exact Nat.pow_le_pow_right (by decide) (by omega)))
    simp [this]
/-- the words of a line, as the model sees them -/
def zIsW (x : Nat → Int32) (l : Nat) (w : Nat → Int32) : Prop := ∀ i, i < 8 → zwo x l i = w i ∧ ∃ j, j < 65536 ∧ w i = nI j
theorem pX7_word {x w : Nat → Int32} {l i : Nat} (hl : l < 32) (hw : zIsW x l w) (hi : i < 8) : fX7_wordOf x (nI l) (nI i) = some (w i) := by rw [pX7_wordOf hl hi, (hw i hi).1]
theorem pX7_lane_loop {x w : Nat → Int32} {l k M : Nat} (hl : l < 32) (hw : zIsW x l w) (hM : M * k + M ≤ 8) (hk : k < 9) : ∀ (n N i : Nat) (a : Int64), i + n = M → n < N → fX7_laneOf_14 x N (nI l) (nI k) (nI M) a (nI i) = some (zacc w n (M * k + i) a) := by
  intro n
  induction n with
  | zero =>
    intro N i a h hN
    obtain ⟨N, rfl⟩ : ∃ k, N = k + 1 := ⟨N - 1, by omega⟩
    rw [fX7_laneOf_14, if_pos (nI_le (by omega) (by omega))]
    rfl
  | succ n ih =>
    intro N i a h hN
    obtain ⟨N, rfl⟩ : ∃ k, N = k + 1 := ⟨N - 1, by omega⟩
    rw [fX7_laneOf_14, if_neg (nI_ge (by omega) (by omega))]
    simp only [zlet_e]
    have hi : M * k + i < 8 := by omega
    rw [pk_mul, nI_add, pX7_word hl hw hi, Option.bind_some]
    obtain ⟨j, hj, e⟩ := (hw _ hi).2
    rw [e, zadd_or a hj, ← e, show nI i + 1 = nI (i + 1) from nI_1 i, ih N (i + 1) _ (by omega) (by omega)]
    rfl
theorem pX7_laneOf {x w : Nat → Int32} {l f k : Nat} (hl : l < 32) (hw : zIsW x l w) (h : 2 ≤ f ∧ f ≤ 6) (hk : k < zlanes f) : fX7_laneOf x (nI l) (nI f) (nI k) = some (zlane w f k) := by
  obtain ⟨m1, m2, m3, m4⟩ := zmany_c h
  have h8 : zlanes f ≤ 8 := by unfold zlanes; exact Nat.div_le_self _ _
  unfold fX7_laneOf
  have hb : zmany f * k + zmany f ≤ 8 := by
    have : zmany f * (k + 1) ≤ zmany f * zlanes f := Nat.mul_le_mul_left _ hk
    rw [Nat.mul_add, Nat.mul_one] at this
    omega
  rw [pX7_widthOf h, Option.bind_some, show (2 : Int32) = nI 2 from rfl, zdiv_n (by omega) (by omega) (by omega), Nat.mul_div_cancel_left _ (by decide)]
  exact pX7_lane_loop hl hw hb (by omega) (zmany f) zF 0 0 (by omega) (zF_gt (by omega))
theorem pX7_base_loop {x w : Nat → Int32} {l f : Nat} (hl : l < 32) (hw : zIsW x l w) (h : 2 ≤ f ∧ f ≤ 6) : ∀ (n N k : Nat), k + n = zlanes f → n < N → fX7_baseOf_2 x N (nI l) (nI f) (nI k) = some (zbase w f n k) := by
  have h8 : zlanes f ≤ 8 := by unfold zlanes; exact Nat.div_le_self _ _
  intro n
  induction n with
  | zero =>
    intro N k hk hN
    obtain ⟨N, rfl⟩ : ∃ k, N = k + 1 := ⟨N - 1, by omega⟩
    rw [fX7_baseOf_2, pX7_lanesOf h, Option.bind_some, if_pos (nI_le (by omega) (by omega))]
    rfl
  | succ n ih =>
    intro N k hk hN
    obtain ⟨N, rfl⟩ : ∃ k, N = k + 1 := ⟨N - 1, by omega⟩
    rw [fX7_baseOf_2, pX7_lanesOf h, Option.bind_some, if_neg (nI_ge (by omega) (by omega)), pX7_laneOf hl hw h (by omega), Option.bind_some, pX7_isSmall h, Option.bind_some]
    unfold zbase
    by_cases c : zsm f (zlane w f k) = 0
    · rw [if_pos c, if_pos c, Option.bind_some]
    · rw [if_neg c, if_neg c, zlet_e, show nI k + 1 = nI (k + 1) from nI_1 k, ih N (k + 1) (by omega) (by omega)]
theorem pX7_baseOf {x w : Nat → Int32} {l f : Nat} (hl : l < 32) (hw : zIsW x l w) (h : 2 ≤ f ∧ f ≤ 6) : fX7_baseOf x (nI l) (nI f) = some (zB w f) := by
  have h8 : zlanes f ≤ 8 := by unfold zlanes; exact Nat.div_le_self _ _
  exact pX7_base_loop hl hw h (zlanes f) zF 0 (by omega) (zF_gt (by omega))
theorem pX7_differenceOf {x w : Nat → Int32} {l f k : Nat} (hl : l < 32) (hw : zIsW x l w) (h : 2 ≤ f ∧ f ≤ 6) (hk : k < zlanes f) : fX7_differenceOf x (nI l) (nI f) (nI k) = some (zdif w f k) := by
  unfold fX7_differenceOf zdif
  rw [pX7_laneOf hl hw h hk, Option.bind_some, pX7_isSmall h, Option.bind_some]
  by_cases c : zsm f (zlane w f k) = 0
  · rw [if_pos c, if_pos c, pX7_baseOf hl hw h, Option.bind_some, zlet_e]
  · rw [if_neg c, if_neg c]
theorem pX7_isAll_loop {x w : Nat → Int32} {l : Nat} {v : Int32} (hl : l < 32) (hw : zIsW x l w) : ∀ (n N i : Nat), i + n = 8 → n < N → fX7_isAll_2 x N (nI l) v (nI i) = some (zfull w v n i) := by
  intro n
  induction n with
  | zero =>
    intro N i h hN
    obtain ⟨N, rfl⟩ : ∃ k, N = k + 1 := ⟨N - 1, by omega⟩
    rw [fX7_isAll_2, if_pos (n8 (by omega) (by omega))]
    rfl
  | succ n ih =>
    intro N i h hN
    obtain ⟨N, rfl⟩ : ∃ k, N = k + 1 := ⟨N - 1, by omega⟩
    rw [fX7_isAll_2, if_neg (n8' (by omega)), pX7_word hl hw (by omega), Option.bind_some]
    unfold zfull
    by_cases c : w i = v
    · rw [if_pos c, if_pos c, zlet_e, show nI i + 1 = nI (i + 1) from nI_1 i, ih N (i + 1) (by omega) (by omega)]
    · rw [if_neg c, if_neg c]
theorem pX7_isAll {x w : Nat → Int32} {l : Nat} {v : Int32} (hl : l < 32) (hw : zIsW x l w) : fX7_isAll x (nI l) v = some (zfull w v 8 0) := pX7_isAll_loop hl hw 8 zF 0 (by omega) (zF_gt (by omega))
theorem pX7_areSmall_loop {x w : Nat → Int32} {l f : Nat} (hl : l < 32) (hw : zIsW x l w) (h : 2 ≤ f ∧ f ≤ 6) : ∀ (n N k : Nat), k + n = zlanes f → n < N → fX7_areSmall_2 x N (nI l) (nI f) (nI k) = some (zall w f n k) := by
  have h8 : zlanes f ≤ 8 := by unfold zlanes; exact Nat.div_le_self _ _
  intro n
  induction n with
  | zero =>
    intro N k hk hN
    obtain ⟨N, rfl⟩ : ∃ k, N = k + 1 := ⟨N - 1, by omega⟩
    rw [fX7_areSmall_2, pX7_lanesOf h, Option.bind_some, if_pos (nI_le (by omega) (by omega))]
    rfl
  | succ n ih =>
    intro N k hk hN
    obtain ⟨N, rfl⟩ : ∃ k, N = k + 1 := ⟨N - 1, by omega⟩
    rw [fX7_areSmall_2, pX7_lanesOf h, Option.bind_some, if_neg (nI_ge (by omega) (by omega)), pX7_differenceOf hl hw h (by omega), Option.bind_some, pX7_isSmall h, Option.bind_some]
    unfold zall
    by_cases c : zsm f (zdif w f k) = 0
    · rw [if_pos c, if_pos c]
    · rw [if_neg c, if_neg c, zlet_e, show nI k + 1 = nI (k + 1) from nI_1 k, ih N (k + 1) (by omega) (by omega)]
theorem nIe {a b : Nat} (ha : a < 100) (hb : b < 100) (h : ¬ a = b) : ¬ nI a = nI b := fun z => h ((nI_eq (by omega) (by omega)).mp z)
theorem pX7_isFit {x w : Nat → Int32} {l f : Nat} (hl : l < 32) (hw : zIsW x l w) (hf : f < 8) : fX7_isFit x (nI l) (nI f) = some (zfit w f) := by
  unfold fX7_isFit zfit
  by_cases c0 : f = 0
  · rw [c0, if_pos (show nI 0 = (0 : Int32) from rfl), if_neg (by decide), if_pos rfl, pX7_isAll hl hw, Option.bind_some, zbl_b (zfull_01 _ _ _ _)]
  · rw [if_neg (show ¬ nI f = (0 : Int32) from nIe (b := 0) (by omega) (by omega) c0)]
    by_cases c1 : f = 1
    · rw [c1, if_pos (show nI 1 = (1 : Int32) from rfl), if_neg (by decide), if_neg (by decide), if_pos rfl, show (0 : Int32) = nI 0 from rfl, pX7_word hl hw (by omega), Option.bind_some, pX7_isAll hl hw, Option.bind_some, zbl_b (zfull_01 _ _ _ _)]
    · rw [if_neg (show ¬ nI f = (1 : Int32) from nIe (b := 1) (by omega) (by omega) c1)]
      by_cases c7 : f = 7
      · rw [c7, if_pos (show nI 7 = (7 : Int32) from rfl), if_pos rfl]
      · rw [if_neg (show ¬ nI f = (7 : Int32) from nIe (b := 7) (by omega) (by omega) c7), if_neg c7, if_neg c0, if_neg c1]
        have h8 : zlanes f ≤ 8 := by unfold zlanes; exact Nat.div_le_self _ _
        unfold fX7_areSmall
        rw [show fX7_areSmall_2 x zF (nI l) (nI f) 0 = some (zall w f (zlanes f) 0) from pX7_areSmall_loop hl hw ⟨by omega, by omega⟩ (zlanes f) zF 0 (by omega) (zF_gt (by omega)), Option.bind_some, zbl_b (zall_01 _ _ _ _)]
theorem pX7_formOf_loop {x w : Nat → Int32} {l : Nat} (hl : l < 32) (hw : zIsW x l w) : ∀ (n N f : Nat), f + n = 7 → n < N → fX7_formOf_2 x N (nI l) (nI f) = some (nI (zfst w n f)) := by
  intro n
  induction n with
  | zero =>
    intro N f hf hN
    obtain ⟨N, rfl⟩ : ∃ k, N = k + 1 := ⟨N - 1, by omega⟩
    have : f = 7 := by omega
    subst this
    rw [fX7_formOf_2, pX7_isFit hl hw (by omega), Option.bind_some]
    rfl
  | succ n ih =>
    intro N f hf hN
    obtain ⟨N, rfl⟩ : ∃ k, N = k + 1 := ⟨N - 1, by omega⟩
    rw [fX7_formOf_2, pX7_isFit hl hw (by omega), Option.bind_some]
    unfold zfst
    by_cases c : zfit w f = 0
    · rw [if_pos c, if_pos c, zlet_e, show nI f + 1 = nI (f + 1) from nI_1 f, ih N (f + 1) (by omega) (by omega)]
    · rw [if_neg c, if_neg c]
theorem pX7_formOf {x w : Nat → Int32} {l : Nat} (hl : l < 32) (hw : zIsW x l w) : fX7_formOf x (nI l) = some (nI (zform w)) := pX7_formOf_loop hl hw 7 zF 0 (by omega) (zF_gt (by omega))
/-- bytes of a form -/
def zby (f : Nat) : Nat := match f with | 0 => 1 | 1 => 2 | 2 => 9 | 3 => 11 | 4 => 11 | 5 => 13 | 6 => 13 | _ => 16
theorem f8 {f : Nat} (h : f < 8) : f = 0 ∨ f = 1 ∨ f = 2 ∨ f = 3 ∨ f = 4 ∨ f = 5 ∨ f = 6 ∨ f = 7 := by omega
theorem zby_v {f : Nat} (h : f < 8) : zSv 0 f = nI (zby f) := by
  rcases f8 h with rfl | rfl | rfl | rfl | rfl | rfl | rfl | rfl <;> rfl
theorem pX7_bytesOf {f : Nat} (h : f < 8) : fX7_bytesOf (nI f) = some (nI (zby f)) := by
  unfold fX7_bytesOf
  rcases f8 h with rfl | rfl | rfl | rfl | rfl | rfl | rfl | rfl <;> decide
theorem pX7_segmentsBy {f : Nat} (h : f < 8) : fX7_segmentsBy (nI f) = some (nI (zsg f)) := by
  unfold fX7_segmentsBy
  rw [pX7_bytesOf h, Option.bind_some]
  rcases f8 h with rfl | rfl | rfl | rfl | rfl | rfl | rfl | rfl <;> decide
theorem pX7_segmentsOf {x w : Nat → Int32} {l : Nat} (hl : l < 32) (hw : zIsW x l w) : fX7_segmentsOf x (nI l) = some (nI (zsg (zform w))) := by
  unfold fX7_segmentsOf
  rw [pX7_formOf hl hw, Option.bind_some, pX7_segmentsBy (zform_lt w), Option.bind_some]
