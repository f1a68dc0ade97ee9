/-! ===== forms of a line of eight words ===== -/
def zacc (w : Nat → Int32) : Nat → Nat → Int64 → Int64
  | 0, _, a => a
  | n + 1, j, a => zacc w n (j + 1) ((a <<< (Int32.toInt64 16 &&& 63)) ||| Int32.toInt64 (w j))
def zmany (f : Nat) : Nat := match f with | 2 => 2 | 3 => 1 | 4 => 4 | 5 => 2 | _ => 4
def zlane (w : Nat → Int32) (f k : Nat) : Int64 := zacc w (zmany f) (zmany f * k) 0
def zfar (f : Nat) : Int64 := if f < 5 then 128 else 32768
def zsm (f : Nat) (v : Int64) : Int32 := if lg_cmp v (-(zfar f)) < 0 then 0 else if 0 ≤ lg_cmp v (zfar f) then 0 else 1
theorem zsm_01 (f : Nat) (v : Int64) : zsm f v = 0 ∨ zsm f v = 1 := by
  unfold zsm
  split
  · exact Or.inl rfl
  · split
    · exact Or.inl rfl
    · exact Or.inr rfl
theorem zsm_0 (f : Nat) : zsm f 0 = 1 := by
  unfold zsm zfar
  split <;> decide
def zlanes (f : Nat) : Nat := 8 / zmany f
def zbase (w : Nat → Int32) (f : Nat) : Nat → Nat → Int64
  | 0, _ => 0
  | n + 1, k => if zsm f (zlane w f k) = 0 then zlane w f k else zbase w f n (k + 1)
def zB (w : Nat → Int32) (f : Nat) : Int64 := zbase w f (zlanes f) 0
def zdif (w : Nat → Int32) (f k : Nat) : Int64 := if zsm f (zlane w f k) = 0 then zlane w f k - zB w f else zlane w f k
/-- each lane small, or less the base is -/
def zall (w : Nat → Int32) (f : Nat) : Nat → Nat → Int32
  | 0, _ => 1
  | n + 1, k => if zsm f (zdif w f k) = 0 then 0 else zall w f n (k + 1)
def zfull (w : Nat → Int32) (v : Int32) : Nat → Nat → Int32
  | 0, _ => 1
  | n + 1, k => if w k = v then zfull w v n (k + 1) else 0
def zfit (w : Nat → Int32) (f : Nat) : Int32 := if f = 7 then 1 else if f = 0 then zfull w 0 8 0 else if f = 1 then zfull w (w 0) 8 0 else zall w f (zlanes f) 0
theorem zfull_01 (w : Nat → Int32) (v : Int32) : ∀ n k, zfull w v n k = 0 ∨ zfull w v n k = 1
  | 0, _ => Or.inr rfl
  | n + 1, k => by unfold zfull; split; exact zfull_01 w v n (k + 1); exact Or.inl rfl
theorem zall_01 (w : Nat → Int32) (f : Nat) : ∀ n k, zall w f n k = 0 ∨ zall w f n k = 1
  | 0, _ => Or.inr rfl
  | n + 1, k => by unfold zall; split; exact Or.inl rfl; exact zall_01 w f n (k + 1)
theorem zfit_01 (w : Nat → Int32) (f : Nat) : zfit w f = 0 ∨ zfit w f = 1 := by
  unfold zfit
  split
  · exact Or.inr rfl
  · split
    · exact zfull_01 _ _ _ _
    · split
      · exact zfull_01 _ _ _ _
      · exact zall_01 _ _ _ _
/-- the first form that fits, from f on -/
def zfst (w : Nat → Int32) : Nat → Nat → Nat
  | 0, f => f
  | n + 1, f => if zfit w f = 0 then zfst w n (f + 1) else f
def zform (w : Nat → Int32) : Nat := zfst w 7 0
theorem zfst_le (w : Nat → Int32) : ∀ n f, zfst w n f ≤ f + n
  | 0, f => Nat.le_refl _
  | n + 1, f => by unfold zfst; split; have := zfst_le w n (f + 1); omega; omega
theorem zform_lt (w : Nat → Int32) : zform w < 8 := by have := zfst_le w 7 0; unfold zform; omega
theorem f5 {f : Nat} (h : 2 ≤ f ∧ f ≤ 6) : f = 2 ∨ f = 3 ∨ f = 4 ∨ f = 5 ∨ f = 6 := by omega
theorem zfar_c {f : Nat} (h : 2 ≤ f ∧ f ≤ 6) : (zSv 3 f).toInt64 = zfar f ∧ (-zSv 3 f).toInt64 = -(zfar f) := by
  rcases f5 h with rfl | rfl | rfl | rfl | rfl <;> decide
theorem pX2_isSmall {f : Nat} (h : 2 ≤ f ∧ f ≤ 6) (v : Int64) : fX2_isSmall v (nI f) = some (zsm f v) := by
  unfold fX2_isSmall zsm
  rw [zald_n (by omega) (by omega)]
  simp only [zlet_e]
  rw [(zfar_c h).2]
  by_cases c1 : lg_cmp v (-(zfar f)) < 0
  · rw [if_pos c1, if_pos c1]
  · rw [if_neg c1, if_neg c1, zald_n (by omega) (by omega), (zfar_c h).1]
    by_cases c2 : 0 ≤ lg_cmp v (zfar f)
    · rw [if_pos c2, if_pos c2]
    · rw [if_neg c2, if_neg c2]
theorem pX7_farthest {f : Nat} (h : 2 ≤ f ∧ f ≤ 6) : fX7_farthest (nI f) = some (zfar f) := by
  unfold fX7_farthest zfar
  by_cases c : f < 5
  · rw [if_neg (show ¬ (5 : Int32) ≤ nI f from nI_ge (a := f) (b := 5) c (by omega)), if_pos c]
  · rw [if_pos (show (5 : Int32) ≤ nI f from nI_le (a := 5) (b := f) (by omega) (by omega)), if_neg c]
theorem pX7_isSmall {f : Nat} (h : 2 ≤ f ∧ f ≤ 6) (v : Int64) : fX7_isSmall (nI f) v = some (zsm f v) := by
  unfold fX7_isSmall zsm
  rw [pX7_farthest h, Option.bind_some]
  simp only [zlet_e]
  by_cases c1 : lg_cmp v (-(zfar f)) < 0
  · rw [if_pos c1, if_pos c1]
  · rw [if_neg c1, if_neg c1]
    by_cases c2 : 0 ≤ lg_cmp v (zfar f)
    · rw [if_pos c2, if_pos c2]
    · rw [if_neg c2, if_neg c2]
theorem pX2_lanesOf {f : Nat} (h : 2 ≤ f ∧ f ≤ 6) : fX2_lanesOf (nI f) = some (nI (zlanes f)) := by
  unfold fX2_lanesOf
  rw [zald_n (by omega) (by omega)]
  rcases f5 h with rfl | rfl | rfl | rfl | rfl <;> decide
theorem pX7_widthOf {f : Nat} (h : 2 ≤ f ∧ f ≤ 6) : fX7_widthOf (nI f) = some (nI (2 * zmany f)) := by
  unfold fX7_widthOf
  rcases f5 h with rfl | rfl | rfl | rfl | rfl <;> decide
theorem pX7_lanesOf {f : Nat} (h : 2 ≤ f ∧ f ≤ 6) : fX7_lanesOf (nI f) = some (nI (zlanes f)) := by
  unfold fX7_lanesOf
  rw [pX7_widthOf h, Option.bind_some]
  rcases f5 h with rfl | rfl | rfl | rfl | rfl <;> decide
theorem zmany_c {f : Nat} (h : 2 ≤ f ∧ f ≤ 6) : 1 ≤ zmany f ∧ zmany f ≤ 4 ∧ zmany f * zlanes f = 8 ∧ zSv 2 f = nI (2 * zmany f) := by
  rcases f5 h with rfl | rfl | rfl | rfl | rfl <;> decide
/-- the class's lane -/
theorem pX2_lane_loop {s : Nat → Int32} {w : Nat → Int32} {l b : Nat} (hl : l < 32) (hw : ∀ j, j < 8 → s (l * 8 + j) = w j) {M : Nat} (hM : b + M ≤ 8) : ∀ (n N i : Nat) (a : Int64), i + n = M → n < N → fX2_lane_26 256 s N (nI M) (nI (l * 8 + b)) a (nI i) = some (zacc w n (b + i) a) := by
  intro n
  induction n with
  | zero =>
    intro N i a h hN
    obtain ⟨N, rfl⟩ : ∃ k, N = k + 1 := ⟨N - 1, by omega⟩
    rw [fX2_lane_26, if_pos (nI_le (by omega) (by omega))]
    rfl
  | succ n ih =>
    intro N i a h hN
    obtain ⟨N, rfl⟩ : ∃ k, N = k + 1 := ⟨N - 1, by omega⟩
    rw [fX2_lane_26, if_neg (nI_ge (by omega) (by omega))]
    simp only [zlet_e]
    rw [nI_add, zald_n (by omega) (by omega)]
    rw [show nI i + 1 = nI (i + 1) from nI_1 i, ih N (i + 1) _ (by omega) (by omega), show l * 8 + b + i = l * 8 + (b + i) by omega, hw (b + i) (by omega)]
    rfl
theorem pX2_lane {s w : Nat → Int32} {l f k : Nat} (hl : l < 32) (hw : ∀ j, j < 8 → s (l * 8 + j) = w j) (h : 2 ≤ f ∧ f ≤ 6) (hk : k < zlanes f) : fX2_lane 256 s (nI l) (nI f) (nI k) = some (zlane w f k) := by
  obtain ⟨m1, m2, m3, m4⟩ := zmany_c h
  unfold fX2_lane
  have hb : zmany f * k + zmany f ≤ 8 := by
    have : zmany f * (k + 1) ≤ zmany f * zlanes f := Nat.mul_le_mul_left _ hk
    rw [Nat.mul_add, Nat.mul_one] at this
    omega
  rw [zald_n (by omega) (by omega), m4, show (2 : Int32) = nI 2 from rfl, zdiv_n (by omega) (by omega) (by omega), Nat.mul_div_cancel_left _ (by decide)]
  simp only [zlet_e]
  rw [show (8 : Int32) = nI 8 from rfl, pk_mul, pk_mul, nI_add, Nat.mul_comm k (zmany f)]
  exact pX2_lane_loop hl hw hb (zmany f) zF 0 0 (by omega) (zF_gt (by omega))
