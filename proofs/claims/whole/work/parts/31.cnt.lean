/-! ===== counting over the lines of a set ===== -/
theorem pX3_stride {st : Nat} (h0 : 0 < st) (h4 : st ≤ 4) : (if nI st < 1 then 1 else nI st : Int32) = nI st :=
  if_neg (show ¬ nI st < (1 : Int32) from nI_nlt (a := st) (b := 1) h0 (by omega))
theorem pX3_setOf {st l : Nat} (h0 : 0 < st) (h4 : st ≤ 4) (hl : l < 32) : fX3_setOf (nI st) (nI l) = some (nI (l % st)) := by
  unfold fX3_setOf
  rw [if_pos (show (1 : Int32) ≤ nI st from nI_le (a := 1) (b := st) h0 (by omega)), zrem_n (by omega) h0 (by omega)]
theorem pX7_setOf {st l : Nat} (h0 : 0 < st) (h4 : st ≤ 4) (hl : l < 32) : fX7_setOf (nI st) (nI l) = some (nI (l % st)) := by
  unfold fX7_setOf
  rw [zrem_n (by omega) h0 (by omega)]
theorem n32 {l : Nat} (h : 32 ≤ l) (hl : l ≤ 100) : (32 : Int32) ≤ nI l := nI_le (a := 32) (b := l) h (by omega)
theorem n32' {l : Nat} (h : l < 32) : ¬ (32 : Int32) ≤ nI l := nI_ge (a := l) (b := 32) h (by omega)
/-- segments of a form -/
def zsg (f : Nat) : Nat := match f with | 0 => 1 | 1 => 1 | 2 => 3 | 3 => 3 | 4 => 3 | _ => 4
theorem zsg_v {f : Nat} (h : f < 8) : zSv 1 f = nI (zsg f) := by
  rcases (show f = 0 ∨ f = 1 ∨ f = 2 ∨ f = 3 ∨ f = 4 ∨ f = 5 ∨ f = 6 ∨ f = 7 by omega) with rfl | rfl | rfl | rfl | rfl | rfl | rfl | rfl <;> rfl
theorem zsg_le (f : Nat) : 1 ≤ zsg f ∧ zsg f ≤ 4 := by unfold zsg; split <;> decide
/-- cached lines of a set but one -/
def zcs (used : Nat → Int32) (but : Int32) (x : Nat) : Bool := decide (0 < used x) && !decide (nI x = but)
theorem pX3_tagsIn_loop {ss : Int32} {used : Nat → Int32} {but : Int32} {st : Nat} (h0 : 0 < st) (h4 : st ≤ 4) : ∀ (m N l c : Nat), 32 ≤ l + m → m < N → l ≤ 40 → fX3_tagsIn_15 ss used N but (nI st) (nI c) (nI l) = some (nI (c + ((zlin st m l).filter (zcs used but)).length)) := by
  intro m
  induction m with
  | zero =>
    intro N l c h hN hl
    obtain ⟨N, rfl⟩ : ∃ k, N = k + 1 := ⟨N - 1, by omega⟩
    rw [fX3_tagsIn_15, if_pos (n32 (by omega) (by omega))]
    simp [zlin]
  | succ m ih =>
    intro N l c h hN hl
    obtain ⟨N, rfl⟩ : ∃ k, N = k + 1 := ⟨N - 1, by omega⟩
    rw [fX3_tagsIn_15]
    by_cases hlt : l < 32
    · rw [if_neg (n32' hlt), zald_n hlt (by omega)]
      unfold zlin
      rw [if_pos hlt, List.filter_cons]
      by_cases hu : used l ≤ 0
      · have hz : zcs used but l = false := by unfold zcs; simp [Int32.not_lt.mpr hu]
        rw [if_pos hu, zlet_e, nI_add, ih N (l + st) c (by omega) (by omega) (by omega), hz]
        simp
      · rw [if_neg hu]
        have hu' : 0 < used l := Int32.not_le.mp hu
        by_cases hb : nI l = but
        · have hz : zcs used but l = false := by unfold zcs; simp [hb]
          rw [if_pos hb, zlet_e, nI_add, ih N (l + st) c (by omega) (by omega) (by omega), hz]
          simp
        · have hz : zcs used but l = true := by unfold zcs; simp [hb, hu']
          rw [if_neg hb, zlet_e, zlet_e, nI_add, show nI c + 1 = nI (c + 1) from nI_1 c, ih N (l + st) (c + 1) (by omega) (by omega) (by omega), hz]
          simp
          congr 1
          omega
    · rw [if_pos (n32 (by omega) (by omega))]
      unfold zlin
      rw [if_neg hlt]
      simp
theorem pX3_tagsIn {used : Nat → Int32} {but : Int32} {st s : Nat} (h0 : 0 < st) (h4 : st ≤ 4) (hs : s < st) : fX3_tagsIn (nI st) used (nI s) but = some (nI ((zlin st 32 s).filter (zcs used but)).length) := by
  unfold fX3_tagsIn
  rw [pX3_stride h0 h4, zlet_e]
  exact (pX3_tagsIn_loop h0 h4 32 zF s 0 (by omega) (zF_gt (by omega)) (by omega)).trans (by rw [Nat.zero_add])
theorem pX3_segmentsIn_loop {ss : Int32} {used shape : Nat → Int32} {sh : Nat → Nat} {but : Int32} {st : Nat} (h0 : 0 < st) (h4 : st ≤ 4) (hsh : ∀ l, l < 32 → 0 < used l → shape l = nI (sh l) ∧ sh l < 8) : ∀ (m N l c : Nat), 32 ≤ l + m → m < N → l ≤ 40 → fX3_segmentsIn_15 ss shape used N but (nI st) (nI c) (nI l) = some (nI (c + (((zlin st m l).filter (zcs used but)).map (fun x => zsg (sh x))).sum)) := by
  intro m
  induction m with
  | zero =>
    intro N l c h hN hl
    obtain ⟨N, rfl⟩ : ∃ k, N = k + 1 := ⟨N - 1, by omega⟩
    rw [fX3_segmentsIn_15, if_pos (n32 (by omega) (by omega))]
    simp [zlin]
  | succ m ih =>
    intro N l c h hN hl
    obtain ⟨N, rfl⟩ : ∃ k, N = k + 1 := ⟨N - 1, by omega⟩
    rw [fX3_segmentsIn_15]
    by_cases hlt : l < 32
    · rw [if_neg (n32' hlt), zald_n hlt (by omega)]
      unfold zlin
      rw [if_pos hlt, List.filter_cons]
      by_cases hu : used l ≤ 0
      · have hz : zcs used but l = false := by unfold zcs; simp [Int32.not_lt.mpr hu]
        rw [if_pos hu, zlet_e, nI_add, ih N (l + st) c (by omega) (by omega) (by omega), hz]
        simp
      · rw [if_neg hu]
        have hu' : 0 < used l := Int32.not_le.mp hu
        by_cases hb : nI l = but
        · have hz : zcs used but l = false := by unfold zcs; simp [hb]
          rw [if_pos hb, zlet_e, nI_add, ih N (l + st) c (by omega) (by omega) (by omega), hz]
          simp
        · have hz : zcs used but l = true := by unfold zcs; simp [hb, hu']
          obtain ⟨e1, e2⟩ := hsh l hlt hu'
          rw [if_neg hb, zald_n hlt (by omega), e1, zald_n e2 (by omega), zlet_e, zlet_e, zsg_v e2, nI_add, nI_add, ih N (l + st) (c + zsg (sh l)) (by omega) (by omega) (by omega), hz]
          simp
          congr 1
          omega
    · rw [if_pos (n32 (by omega) (by omega))]
      unfold zlin
      rw [if_neg hlt]
      simp
theorem pX3_segmentsIn {used shape : Nat → Int32} {sh : Nat → Nat} {but : Int32} {st s : Nat} (h0 : 0 < st) (h4 : st ≤ 4) (hs : s < st) (hsh : ∀ l, l < 32 → 0 < used l → shape l = nI (sh l) ∧ sh l < 8) : fX3_segmentsIn (nI st) shape used (nI s) but = some (nI (((zlin st 32 s).filter (zcs used but)).map (fun x => zsg (sh x))).sum) := by
  unfold fX3_segmentsIn
  rw [pX3_stride h0 h4, zlet_e]
  exact (pX3_segmentsIn_loop h0 h4 hsh 32 zF s 0 (by omega) (zF_gt (by omega)) (by omega)).trans (by rw [Nat.zero_add])
theorem pX7_isCachedNow {x : Nat → Int32} {l : Nat} (hl : l < 32) : fX7_isCachedNow x (nI l) = some (if x (512 + l) ≤ 0 then 0 else 1) := by
  unfold fX7_isCachedNow
  rw [zlet_e, show (512 : Int32) + nI l = nI (512 + l) from nI_add 512 l, zald_n (by omega) (by omega)]
  split <;> rfl
theorem pX7_tagsIn_loop {x used : Nat → Int32} {st : Nat} (h0 : 0 < st) (h4 : st ≤ 4) (hu : ∀ l, l < 32 → x (512 + l) = used l) : ∀ (m N l c : Nat), 32 ≤ l + m → m < N → l ≤ 40 → fX7_tagsIn_4 (nI st) x N (nI c) (nI l) = some (nI (c + ((zlin st m l).filter (zcs used (-1))).length)) := by
  intro m
  induction m with
  | zero =>
    intro N l c h hN hl
    obtain ⟨N, rfl⟩ : ∃ k, N = k + 1 := ⟨N - 1, by omega⟩
    rw [fX7_tagsIn_4, if_pos (n32 (by omega) (by omega))]
    simp [zlin]
  | succ m ih =>
    intro N l c h hN hl
    obtain ⟨N, rfl⟩ : ∃ k, N = k + 1 := ⟨N - 1, by omega⟩
    rw [fX7_tagsIn_4]
    by_cases hlt : l < 32
    · rw [if_neg (n32' hlt), pX7_isCachedNow hlt, Option.bind_some, hu l hlt]
      unfold zlin
      rw [if_pos hlt, List.filter_cons]
      have hne : ¬ nI l = -1 := fun h => nI_pos (n := l) (by omega) (by rw [h]; decide)
      by_cases hc : used l ≤ 0
      · have hz : zcs used (-1) l = false := by unfold zcs; simp [Int32.not_lt.mpr hc]
        rw [if_pos hc, if_pos rfl]
        unfold fX7_tagsIn_24
        rw [zlet_e, zlet_e, nI_add, show nI c + 0 = nI c from nI_add c 0, ih N (l + st) c (by omega) (by omega) (by omega), hz]
        simp
      · have hz : zcs used (-1) l = true := by unfold zcs; simp [Int32.not_le.mp hc, hne]
        rw [if_neg hc, if_neg (by decide)]
        unfold fX7_tagsIn_24
        rw [zlet_e, zlet_e, nI_add, show nI c + 1 = nI (c + 1) from nI_1 c, ih N (l + st) (c + 1) (by omega) (by omega) (by omega), hz]
        simp
        congr 1
        omega
    · rw [if_pos (n32 (by omega) (by omega))]
      unfold zlin
      rw [if_neg hlt]
      simp
theorem pX7_tagsIn {x used : Nat → Int32} {st s : Nat} (h0 : 0 < st) (h4 : st ≤ 4) (hs : s < st) (hu : ∀ l, l < 32 → x (512 + l) = used l) : fX7_tagsIn (nI st) x (nI s) = some (nI ((zlin st 32 s).filter (zcs used (-1))).length) := by
  unfold fX7_tagsIn
  exact (pX7_tagsIn_loop h0 h4 hu 32 zF s 0 (by omega) (zF_gt (by omega)) (by omega)).trans (by rw [Nat.zero_add])
