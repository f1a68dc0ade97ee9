theorem n8 {i : Nat} (h : 8 ≤ i) (h2 : i ≤ 100) : (8 : Int32) ≤ nI i := nI_le (a := 8) (b := i) h (by omega)
theorem n8' {i : Nat} (h : i < 8) : ¬ (8 : Int32) ≤ nI i := nI_ge (a := i) (b := 8) h (by omega)
theorem pX2_isFull_loop {s w : Nat → Int32} {l : Nat} {v : Int32} (hl : l < 32) (hw : ∀ j, j < 8 → s (l * 8 + j) = w j) : ∀ (n N i : Nat), i + n = 8 → n < N → fX2_isFull_2 256 s N (nI l) v (nI i) = some (zfull w v n i) := by
  intro n
  induction n with
  | zero =>
    intro N i h hN
    obtain ⟨N, rfl⟩ : ∃ k, N = k + 1 := ⟨N - 1, by omega⟩
    rw [fX2_isFull_2, if_pos (n8 (by omega) (by omega))]
    rfl
  | succ n ih =>
    intro N i h hN
    obtain ⟨N, rfl⟩ : ∃ k, N = k + 1 := ⟨N - 1, by omega⟩
    rw [fX2_isFull_2, if_neg (n8' (by omega))]
    simp only [zlet_e]
    rw [show (8 : Int32) = nI 8 from rfl, pk_mul, nI_add, zald_n (by omega) (by omega), hw i (by omega)]
    unfold zfull
    by_cases c : w i = v
    · rw [if_pos c, if_pos c, show nI i + 1 = nI (i + 1) from nI_1 i, ih N (i + 1) (by omega) (by omega)]
    · rw [if_neg c, if_neg c]
theorem pX2_isFull {s w : Nat → Int32} {l : Nat} {v : Int32} (hl : l < 32) (hw : ∀ j, j < 8 → s (l * 8 + j) = w j) : fX2_isFull 256 s (nI l) v = some (zfull w v 8 0) := pX2_isFull_loop hl hw 8 zF 0 (by omega) (zF_gt (by omega))
theorem pX2_base_loop {s w : Nat → Int32} {l f : Nat} (hl : l < 32) (hw : ∀ j, j < 8 → s (l * 8 + j) = w j) (h : 2 ≤ f ∧ f ≤ 6) : ∀ (n N k : Nat), k + n = zlanes f → n < N → fX2_baseOf_2 256 s N (nI l) (nI f) (nI k) = some (zbase w f n k) := by
  obtain ⟨m1, m2, m3, m4⟩ := zmany_c h
  have h8 : zlanes f ≤ 8 := by unfold zlanes; exact Nat.div_le_self _ _
  intro n
  induction n with
  | zero =>
    intro N k hk hN
    obtain ⟨N, rfl⟩ : ∃ k, N = k + 1 := ⟨N - 1, by omega⟩
    rw [fX2_baseOf_2, pX2_lanesOf h, Option.bind_some, if_pos (nI_le (by omega) (by omega))]
    rfl
  | succ n ih =>
    intro N k hk hN
    obtain ⟨N, rfl⟩ : ∃ k, N = k + 1 := ⟨N - 1, by omega⟩
    rw [fX2_baseOf_2, pX2_lanesOf h, Option.bind_some, if_neg (nI_ge (by omega) (by omega)), pX2_lane hl hw h (by omega), Option.bind_some, pX2_isSmall h, Option.bind_some]
    unfold zbase
    by_cases c : zsm f (zlane w f k) = 0
    · rw [if_pos c, if_pos c]
    · rw [if_neg c, if_neg c, zlet_e, show nI k + 1 = nI (k + 1) from nI_1 k, ih N (k + 1) (by omega) (by omega)]
theorem pX2_baseOf {s w : Nat → Int32} {l f : Nat} (hl : l < 32) (hw : ∀ j, j < 8 → s (l * 8 + j) = w j) (h : 2 ≤ f ∧ f ≤ 6) : fX2_baseOf 256 s (nI l) (nI f) = some (zB w f) := by
  have h8 : zlanes f ≤ 8 := by unfold zlanes; exact Nat.div_le_self _ _
  exact pX2_base_loop hl hw h (zlanes f) zF 0 (by omega) (zF_gt (by omega))
/-- with the base known -/
theorem pX2_holds_t {s w : Nat → Int32} {l f : Nat} (hl : l < 32) (hw : ∀ j, j < 8 → s (l * 8 + j) = w j) (h : 2 ≤ f ∧ f ≤ 6) : ∀ (n N k : Nat), k + n = zlanes f → n < N → fX2_holds_41 256 s N (nI l) (nI f) 1 (zB w f) (nI k) = some (zall w f n k) := by
  have h8 : zlanes f ≤ 8 := by unfold zlanes; exact Nat.div_le_self _ _
  intro n
  induction n with
  | zero =>
    intro N k hk hN
    obtain ⟨N, rfl⟩ : ∃ k, N = k + 1 := ⟨N - 1, by omega⟩
    rw [fX2_holds_41, pX2_lanesOf h, Option.bind_some, if_pos (nI_le (by omega) (by omega))]
    rfl
  | succ n ih =>
    intro N k hk hN
    obtain ⟨N, rfl⟩ : ∃ k, N = k + 1 := ⟨N - 1, by omega⟩
    rw [fX2_holds_41, pX2_lanesOf h, Option.bind_some, if_neg (nI_ge (by omega) (by omega)), pX2_lane hl hw h (by omega), Option.bind_some, pX2_isSmall h, Option.bind_some]
    unfold zall zdif
    by_cases c : zsm f (zlane w f k) = 0
    · rw [if_pos c, if_pos c, if_neg (by decide), zlet_e, pX2_isSmall h, Option.bind_some]
      by_cases c2 : zsm f (zlane w f k - zB w f) = 0
      · rw [if_pos c2, if_pos c2]
      · rw [if_neg c2, if_neg c2]
        unfold fX2_holds_87
        rw [if_neg (by decide), zlet_e, show nI k + 1 = nI (k + 1) from nI_1 k, ih N (k + 1) (by omega) (by omega)]
    · rw [if_neg c, if_neg c, if_neg c, zlet_e, show nI k + 1 = nI (k + 1) from nI_1 k, ih N (k + 1) (by omega) (by omega)]
/-- no base yet -/
theorem pX2_holds_f {s w : Nat → Int32} {l f : Nat} (hl : l < 32) (hw : ∀ j, j < 8 → s (l * 8 + j) = w j) (h : 2 ≤ f ∧ f ≤ 6) : ∀ (n N k : Nat) (z : Int64), k + n = zlanes f → n < N → zbase w f n k = zB w f → fX2_holds_41 256 s N (nI l) (nI f) 0 z (nI k) = some (zall w f n k) := by
  have h8 : zlanes f ≤ 8 := by unfold zlanes; exact Nat.div_le_self _ _
  intro n
  induction n with
  | zero =>
    intro N k z hk hN _
    obtain ⟨N, rfl⟩ : ∃ k, N = k + 1 := ⟨N - 1, by omega⟩
    rw [fX2_holds_41, pX2_lanesOf h, Option.bind_some, if_pos (nI_le (by omega) (by omega))]
    rfl
  | succ n ih =>
    intro N k z hk hN hz
    obtain ⟨N, rfl⟩ : ∃ k, N = k + 1 := ⟨N - 1, by omega⟩
    rw [fX2_holds_41, pX2_lanesOf h, Option.bind_some, if_neg (nI_ge (by omega) (by omega)), pX2_lane hl hw h (by omega), Option.bind_some, pX2_isSmall h, Option.bind_some]
    unfold zbase at hz
    unfold zall zdif
    by_cases c : zsm f (zlane w f k) = 0
    · rw [if_pos c] at hz
      rw [if_pos c, if_pos c, if_pos rfl]
      unfold fX2_holds_87
      rw [if_pos rfl, zlet_e, show nI k + 1 = nI (k + 1) from nI_1 k, hz, pX2_holds_t hl hw h n N (k + 1) (by omega) (by omega)]
      have e0 : zB w f - zB w f = 0 := by simp
      rw [e0, zsm_0, if_neg (by decide)]
    · rw [if_neg c] at hz
      rw [if_neg c, if_neg c, if_neg c, zlet_e, show nI k + 1 = nI (k + 1) from nI_1 k, ih N (k + 1) z (by omega) (by omega) hz]
theorem pX2_holds {s w : Nat → Int32} {l f : Nat} (hl : l < 32) (hw : ∀ j, j < 8 → s (l * 8 + j) = w j) (hf : f < 8) : fX2_holds 256 s (nI l) (nI f) = some (zfit w f) := by
  unfold fX2_holds zfit
  by_cases c7 : f = 7
  · rw [if_pos c7, if_pos (by rw [c7]; rfl)]
  · rw [if_neg c7, if_neg (show ¬ nI f = (7 : Int32) from fun z => c7 ((nI_eq (b := 7) (by omega) (by omega)).mp z))]
    by_cases c2 : 2 ≤ f
    · rw [if_pos (show (2 : Int32) ≤ nI f from nI_le (a := 2) c2 (by omega)), if_neg (by omega), if_neg (by omega)]
      have h8 : zlanes f ≤ 8 := by unfold zlanes; exact Nat.div_le_self _ _
      exact pX2_holds_f hl hw ⟨c2, by omega⟩ (zlanes f) zF 0 0 (by omega) (zF_gt (by omega)) rfl
    · rw [if_neg (show ¬ (2 : Int32) ≤ nI f from nI_ge (a := f) (b := 2) (by omega) (by omega))]
      rcases (show f = 0 ∨ f = 1 by omega) with rfl | rfl
      · rw [if_pos (show nI 0 = (0 : Int32) from rfl), if_pos rfl]
        unfold fX2_holds_29
        rw [pX2_isFull hl hw, Option.bind_some, zbl_b (zfull_01 _ _ _ _)]
      · rw [if_neg (show ¬ nI 1 = (0 : Int32) by decide), if_neg (by omega), if_pos rfl, zlet_e, show (8 : Int32) = nI 8 from rfl, pk_mul, zald_n (by omega) (by omega)]
        unfold fX2_holds_29
        rw [pX2_isFull hl hw, Option.bind_some, zbl_b (zfull_01 _ _ _ _), show s (l * 8) = w 0 from hw 0 (by omega)]
theorem pX2_shortest_loop {s w : Nat → Int32} {l : Nat} (hl : l < 32) (hw : ∀ j, j < 8 → s (l * 8 + j) = w j) : ∀ (n N f : Nat), f + n = 7 → n < N → fX2_shortest_2 256 s N (nI l) (nI f) = some (nI (zfst w n f)) := by
  intro n
  induction n with
  | zero =>
    intro N f hf hN
    obtain ⟨N, rfl⟩ : ∃ k, N = k + 1 := ⟨N - 1, by omega⟩
    rw [fX2_shortest_2, if_pos (show (7 : Int32) ≤ nI f from nI_le (a := 7) (by omega) (by omega))]
    unfold zfst
    rw [show f = 7 by omega]
    rfl
  | succ n ih =>
    intro N f hf hN
    obtain ⟨N, rfl⟩ : ∃ k, N = k + 1 := ⟨N - 1, by omega⟩
    rw [fX2_shortest_2, if_neg (show ¬ (7 : Int32) ≤ nI f from nI_ge (a := f) (b := 7) (by omega) (by omega)), pX2_holds hl hw (by omega), Option.bind_some]
    unfold zfst
    by_cases c : zfit w f = 0
    · rw [if_pos c, if_pos c, zlet_e, show nI f + 1 = nI (f + 1) from nI_1 f, ih N (f + 1) (by omega) (by omega)]
    · rw [if_neg c, if_neg c]
theorem pX2_shortest {s w : Nat → Int32} {l : Nat} (hl : l < 32) (hw : ∀ j, j < 8 → s (l * 8 + j) = w j) : fX2_shortest 256 s (nI l) = some (nI (zform w)) := pX2_shortest_loop hl hw 7 zF 0 (by omega) (zF_gt (by omega))
/-- the model's word of a line -/
def zwo (x : Nat → Int32) (l i : Nat) : Int32 := if x (512 + l) ≤ 0 then x (8 * l + i) else x (256 + 8 * l + i)
theorem pX7_wordOf {x : Nat → Int32} {l i : Nat} (hl : l < 32) (hi : i < 8) : fX7_wordOf x (nI l) (nI i) = some (zwo x l i) := by
  unfold fX7_wordOf zwo
  rw [pX7_isCachedNow hl, Option.bind_some]
  by_cases c : x (512 + l) ≤ 0
  · rw [if_pos c, if_pos c, if_pos rfl]
    unfold fX7_wordOf_19
    simp only [zlet_e]
    rw [show (8 : Int32) = nI 8 from rfl, pk_mul, show (0 : Int32) = nI 0 from rfl, nI_add, nI_add, Nat.zero_add, zald_n (by omega) (by omega)]
  · rw [if_neg c, if_neg c, if_neg (by decide)]
    unfold fX7_wordOf_19
    simp only [zlet_e]
    rw [show (8 : Int32) = nI 8 from rfl, pk_mul, show (256 : Int32) = nI 256 from rfl, nI_add, nI_add, zald_n (by omega) (by omega)]
