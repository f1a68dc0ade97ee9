/-! ===== counting over the lines of a set ===== -/
theorem pX3_stride {st : Nat} (h0 : 0 < st) (h4 : st ≤ 4) : fX3_stride (nI st) = some (nI st) := by
  unfold fX3_stride
  rw [zlet_e, if_neg]
  exact nI_nlt (a := st) (b := 1) h0 (by omega)
theorem pX3_setOf {st l : Nat} (h0 : 0 < st) (h4 : st ≤ 4) (hl : l < 32) : fX3_setOf (nI st) (nI l) = some (nI (l % st)) := by
  unfold fX3_setOf
  rw [if_pos (nI_le (a := 1) (b := st) h0 (by omega)), zrem_n (by omega) h0 (by omega)]
theorem pX7_setOf {st l : Nat} (h0 : 0 < st) (h4 : st ≤ 4) (hl : l < 32) : fX7_setOf (nI st) (nI l) = some (nI (l % st)) := by
  unfold fX7_setOf
  rw [zrem_n (by omega) h0 (by omega)]
theorem n32 {l : Nat} (h : 32 ≤ l) (hl : l ≤ 100) : (32 : Int32) ≤ nI l := nI_le (a := 32) (b := l) h (by omega)
theorem n32' {l : Nat} (h : l < 32) : ¬ (32 : Int32) ≤ nI l := nI_ge (a := l) (b := 32) h (by omega)
theorem pX3_tagsIn_loop {ss : Int32} {used : Nat → Int32} {but : Int32} {st : Nat} (h4 : st ≤ 4) : ∀ (m N l c : Nat), 32 ≤ l + m → m < N → l ≤ 40 → fX3_tagsIn_11 ss used N but (nI st) (nI c) (nI l) = some (nI (c + (zlin st m l).countP (fun x => decide (0 < used x) && !decide (nI x = but)))) := by
  intro m
  induction m with
  | zero =>
    intro N l c h hN hl
    obtain ⟨N, rfl⟩ : ∃ k, N = k + 1 := ⟨N - 1, by omega⟩
    rw [fX3_tagsIn_11, if_pos (n32 (by omega) (by omega))]
    simp [zlin]
  | succ m ih =>
    intro N l c h hN hl
    obtain ⟨N, rfl⟩ : ∃ k, N = k + 1 := ⟨N - 1, by omega⟩
    rw [fX3_tagsIn_11]
    by_cases hlt : l < 32
    · rw [if_neg (n32' hlt), zald_n hlt (by omega)]
      unfold zlin
      rw [if_pos hlt, List.countP_cons]
      by_cases hu : used l ≤ 0
      · rw [if_pos hu, zlet_e, nI_add, ih N (l + st) c (by omega) (by omega) (by omega)]
        have : ¬ 0 < used l := Int32.not_lt.mpr hu
        simp [this]
      · rw [if_neg hu]
        have hu' : 0 < used l := Int32.not_le.mp hu
        by_cases hb : nI l = but
        · rw [if_pos hb, zlet_e, nI_add, ih N (l + st) c (by omega) (by omega) (by omega)]
          simp [hb]
        · rw [if_neg hb, zlet_e, zlet_e, nI_add, show nI c + 1 = nI (c + 1) from nI_1 c, ih N (l + st) (c + 1) (by omega) (by omega) (by omega)]
          simp [hb, hu']
          congr 1
          omega
    · rw [if_pos (n32 (by omega) (by omega))]
      unfold zlin
      rw [if_neg hlt]
      simp
theorem pX3_tagsIn {used : Nat → Int32} {but : Int32} {st s : Nat} (h0 : 0 < st) (h4 : st ≤ 4) (hs : s < st) : fX3_tagsIn (nI st) used (nI s) but = some (nI ((zlin st 32 s).countP (fun x => decide (0 < used x) && !decide (nI x = but)))) := by
  unfold fX3_tagsIn
  rw [pX3_stride h0 h4, Option.bind_some]
  exact (pX3_tagsIn_loop h4 32 zF s 0 (by omega) (zF_gt (by omega)) (by omega)).trans (by rw [Nat.zero_add])
