section CLS
variable {k : zK} {a : zA} {B : Nat} {used last shape dirty memory words : Nat → Int32}
theorem aWb_Dx (hI : zIA B a) {l : Nat} (hl : l < 32) (x : Nat) : aD (aWb a l) x = if x = l then 0 else aD a x := by
  rcases aWb_D hI hl with h | ⟨h1, h2⟩
  · rw [h]; rfl
  · rw [h2]
    by_cases c : x = l
    · rw [if_pos c, c, h1]
    · rw [if_neg c]
theorem aWb_Mx (hI : zIA B a) {l : Nat} (hl : l < 32) {j : Nat} (hj : j < 256) : aM (aWb a l) j = if l * 8 ≤ j ∧ j < l * 8 + 8 then aW a j else aM a j := by
  unfold aWb
  by_cases c : aD a l = 1
  · rw [if_pos c]
  · rw [if_neg c]
    by_cases cj : l * 8 ≤ j ∧ j < l * 8 + 8
    · rw [if_pos cj]
      have h := hI.1 l hl
      have h2 := h.2.2.1 (by omega) (j - l * 8) (by omega)
      rw [show l * 8 + (j - l * 8) = j by omega] at h2
      exact h2.symm
    · rw [if_neg cj]
theorem aWb_I (hI : zIA B a) {l : Nat} (hl : l < 32) : zIA B (aWb a l) := by
  obtain ⟨h1, h2, h3, h4⟩ := id hI
  refine ⟨fun x hx => ?_, ?_, fun j hj => ?_, ?_⟩
  · obtain ⟨g1, g2, g3, g4, g5⟩ := h1 x hx
    rw [aWb_Dx hI hl, aWb_U, aWb_T, aWb_C, aWb_W]
    refine ⟨?_, ?_, ?_, g4, g5⟩
    · split; omega; exact g1
    · intro hu; split; rfl; exact g2 hu
    · intro hd i hi
      rw [aWb_Mx hI hl (by omega)]
      by_cases c : x = l
      · rw [if_pos (by omega)]
      · rw [if_neg c] at hd
        rw [if_neg (by omega)]
        exact g3 hd i hi
  · rw [aWb_U, aWb_T]; exact h2
  · rw [aWb_Mx hI hl hj, aWb_W]
    refine ⟨?_, (h3 j hj).2⟩
    split
    · exact (h3 j hj).2
    · exact (h3 j hj).1
  · rw [aWb_C]; exact h4
theorem aFg_I (hI : zIA B a) {l : Nat} (hl : l < 32) : zIA B (aFg a l) := by
  have hD := aWb_Dx hI hl
  obtain ⟨h1, h2, h3, h4⟩ := aWb_I hI hl
  refine ⟨fun x hx => ?_, fun x y hx hy ux uy e => ?_, h3, h4⟩
  · obtain ⟨g1, g2, g3, g4, g5⟩ := h1 x hx
    rw [aWb_U] at g2 g4
    refine ⟨g1, ?_, g3, ?_, g5⟩
    · intro hu
      show aD (aWb a l) x = 0
      rw [hD]
      by_cases c : x = l
      · rw [if_pos c]
      · rw [if_neg c]
        have : aU a x = 0 := by
          have e : aU (aFg a l) x = nup (aU a) l 0 x := rfl
          rw [e] at hu
          unfold nup at hu
          rw [if_neg c] at hu
          exact hu
        have := g2 this
        rw [hD, if_neg c] at this
        exact this
    · show nup (aU a) l 0 x ≤ aC (aWb a l)
      unfold nup
      split
      · omega
      · exact g4
  · have f : ∀ z, 0 < aU (aFg a l) z → 0 < aU a z := fun z hz => by
      have e : aU (aFg a l) z = nup (aU a) l 0 z := rfl
      rw [e] at hz
      unfold nup at hz
      split at hz
      · omega
      · exact hz
    exact h2 x y hx hy (by rw [aWb_U]; exact f x ux) (by rw [aWb_U]; exact f y uy) e
/-- the class makes room -/
theorem pX3_makeRoom_loop (hk : zKok k) {l s need vi bi : Nat} {ss ways wgd pl : Int32} (hl : l < 32) (hs : s < k.1) (hn : need ≤ 4) : ∀ (n N g : Nat) (a : zA) (used dirty memory : Nat → Int32) (v b : Nat), g + n = 32 → n < N → zIA B a → zRS k a used last shape dirty memory words →
    ∃ d m u, fX3_makeRoomFor_47 (nI k.1) ways (nI (zbn k.2.2.2.1)) pl last shape words N (nI l) (nI s) (nI k.2.1) (nI (k.2.2.1 - need)) (nI g) (nI v) (nI b) dirty memory used = some (nI (aMr k s l need n a v b).2.1, nI (aMr k s l need n a v b).2.2, d, m, u) ∧ zRS k (aMr k s l need n a v b).1 u last shape d m words ∧ zIA B (aMr k s l need n a v b).1 := by
  intro n
  induction n with
  | zero =>
    intro N g a used dirty memory v b hg hN hI hR
    obtain ⟨N, rfl⟩ : ∃ k, N = k + 1 := ⟨N - 1, by omega⟩
    rw [fX3_makeRoomFor_47, if_pos (n32 (by omega) (by omega))]
    exact ⟨dirty, memory, used, rfl, hR, hI⟩
  | succ n ih =>
    intro N g a used dirty memory v b hg hN hI hR
    obtain ⟨N, rfl⟩ : ∃ k, N = k + 1 := ⟨N - 1, by omega⟩
    obtain ⟨k1, k2, k3, k4, k5, k6⟩ := hk
    have hk' : zKok k := ⟨k1, k2, k3, k4, k5, k6⟩
    have hlen : aTags k a s l ≤ 32 := by
      have h1 : (zlin k.1 32 s).length ≤ 32 := by
        have : ∀ m x, (zlin k.1 m x).length ≤ m := by
          intro m
          induction m with
          | zero => intro x; simp [zlin]
          | succ m ihm => intro x; unfold zlin; split; simpa using ihm _; simp
        exact this 32 s
      exact Nat.le_trans (List.length_filter_le _ _) h1
    have htak : aTak k a s l ≤ 4 * aTags k a s l := by
      unfold aTak aTags
      generalize aCs k a s l = L
      induction L with
      | nil => simp
      | cons x L ihL =>
        have := (aS_le k a x).2
        simp only [List.map_cons, List.sum_cons, List.length_cons]
        omega
    have step : ∃ d m u, fX3_makeRoomFor_76 (nI k.1) ways (nI (zbn k.2.2.2.1)) pl last shape words (fX3_makeRoomFor_47 (nI k.1) ways (nI (zbn k.2.2.2.1)) pl last shape words N) (nI l) (nI s) (nI k.2.1) (nI (k.2.2.1 - need)) (nI g) (nI v) (nI b) dirty memory used = some (nI (match aVic k a s l with | none => (a, v, b) | some q => aMr k s l need n (aFg a q) (v + 1) (b + aD a q)).2.1, nI (match aVic k a s l with | none => (a, v, b) | some q => aMr k s l need n (aFg a q) (v + 1) (b + aD a q)).2.2, d, m, u) ∧ zRS k (match aVic k a s l with | none => (a, v, b) | some q => aMr k s l need n (aFg a q) (v + 1) (b + aD a q)).1 u last shape d m words ∧ zIA B (match aVic k a s l with | none => (a, v, b) | some q => aMr k s l need n (aFg a q) (v + 1) (b + aD a q)).1 := by
      unfold fX3_makeRoomFor_76
      rw [pX3_victim hI hk' hR (zBut_n hl) hs, Option.bind_some]
      cases hv : aVic k a s l with
      | none =>
        rw [if_neg (show ¬ (0 : Int32) ≤ zov (-1) none by decide)]
        exact ⟨dirty, memory, used, rfl, hR, hI⟩
      | some q =>
        obtain ⟨q1, q2, q3, q4⟩ := aVic_in hv
        obtain ⟨d, m, u, e1, e2⟩ := pX3_forgetLine (b := b) hI hR q1
        rw [show zov (-1) (some q) = nI q from rfl, if_pos (nI_pos' (by omega)), zlet_e, e1, Option.bind_some, zlet_e, show nI v + 1 = nI (v + 1) from nI_1 v, show nI g + 1 = nI (g + 1) from nI_1 g]
        exact ih N (g + 1) (aFg a q) u d m (v + 1) (b + aD a q) (by omega) (by omega) (aFg_I hI q1) e2
    rw [fX3_makeRoomFor_47, if_neg (n32' (by omega)), pX3_tags hI hk' hR (zBut_n hl) hs, Option.bind_some]
    unfold aMr
    by_cases c1 : aTags k a s l < k.2.1
    · rw [if_neg (nI_ge c1 (by omega)), pX3_segs hI hk' hR (zBut_n hl) hs, Option.bind_some]
      by_cases c2 : aTak k a s l + need ≤ k.2.2.1
      · rw [if_neg (nI_nlt (by omega) (by omega)), if_pos ⟨c1, c2⟩]
        exact ⟨dirty, memory, used, rfl, hR, hI⟩
      · rw [if_pos (nI_lt (by omega) (by omega)), if_neg (fun z => c2 z.2)]
        exact step
    · rw [if_pos (nI_le (by omega) (by omega)), if_neg (fun z => c1 z.1)]
      exact step
end CLS
