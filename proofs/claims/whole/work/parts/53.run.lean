/-! ===== the steps are run ===== -/
/-- steps: where, and what is written -/
abbrev zL : Type := List (Nat × Option Nat)
def zLok (L : zL) : Prop := ∀ s ∈ L, s.1 < 256 ∧ ∀ w, s.2 = some w → w < 65536
/-- state, hits as bits, hits, victims, written back -/
def aRun (k : zK) : Nat → zL → zA × Int32 × Nat × Nat × Nat → zA × Int32 × Nat × Nat × Nat
  | _, [], S => S
  | i, (sp, wo) :: L, (a, t, h, v, b) => aRun k (i + 1) L ((aUse k a sp wo v b).1, (if 0 < aU a (sp / 8) then t ||| ((1 : Int32) <<< (nI i &&& 31)) else t), h + zbn (decide (0 < aU a (sp / 8))), (aUse k a sp wo v b).2.1, (aUse k a sp wo v b).2.2)
def zLX (L : zL) (spot word : Nat → Int32) : Prop := ∀ i s, L[i]? = some s → spot i = nI s.1 ∧ word i = zov (-1) s.2
def zLM (L : zL) (line at' put : Nat → Int32) : Prop := ∀ i s, L[i]? = some s → line i = nI (s.1 / 8) ∧ at' i = nI (s.1 % 8) ∧ put i = zov (-1) s.2
section RUN
variable {st wy : Nat} {wg pl : Bool} {B : Nat}
theorem pX3_run_loop (hsw : zSW st wy) {spot word : Nat → Int32} {L : zL} (hL : zLok L) (hx : zLX L spot word) (hl : L.length ≤ 16) : ∀ (R P : zL) (N : Nat) (a : zA) (t : Int32) (h v b : Nat) (used last shape dirty memory words : Nat → Int32), P ++ R = L → R.length < N → zIA B a → aC a + R.length ≤ B → zRS (mkK st wy wg pl) a used last shape dirty memory words →
    ∃ c h' d la m sh u ws, fX3_runSteps_4 (nI st) (nI wy) (nI (zbn wg)) (nI (zbn pl)) (nI L.length) spot word N t (nI P.length) (nI (aC a)) (nI h) (nI v) (nI b) dirty last memory shape used words = some ((aRun (mkK st wy wg pl) P.length R (a, t, h, v, b)).2.1, c, h', nI (aRun (mkK st wy wg pl) P.length R (a, t, h, v, b)).2.2.2.1, nI (aRun (mkK st wy wg pl) P.length R (a, t, h, v, b)).2.2.2.2, d, la, m, sh, u, ws) ∧ h' = nI (aRun (mkK st wy wg pl) P.length R (a, t, h, v, b)).2.2.1 ∧ c = nI (aC a + R.length) ∧
      zRS (mkK st wy wg pl) (aRun (mkK st wy wg pl) P.length R (a, t, h, v, b)).1 u la sh d m ws := by
  intro R
  induction R with
  | nil =>
    intro P N a t h v b used last shape dirty memory words e hN hI hC hR
    obtain ⟨N, rfl⟩ : ∃ k, N = k + 1 := ⟨N - 1, by omega⟩
    rw [List.append_nil] at e
    rw [fX3_runSteps_4, e, if_pos (Int32.le_refl _)]
    exact ⟨_, _, _, _, _, _, _, _, rfl, rfl, rfl, hR⟩
  | cons s R ih =>
    intro P N a t h v b used last shape dirty memory words e hN hI hC hR
    obtain ⟨sp, wo⟩ := s
    obtain ⟨N, rfl⟩ : ∃ k, N = k + 1 := ⟨N - 1, by omega⟩
    have hlen : L.length = P.length + R.length + 1 := by rw [← e]; simp; omega
    have hs := hL (sp, wo) (by rw [← e]; simp)
    obtain ⟨x1, x2⟩ := hx P.length (sp, wo) (by rw [← e]; simp)
    have e' : (P ++ [(sp, wo)]) ++ R = L := by rw [← e]; simp
    simp at hC hN
    obtain ⟨d, la, m, sh, u, ws, f1, f2, f3, f4⟩ := pX3_use (v := v) (b := b) (h := h) hsw hs.1 hI (by omega) hR hs.2
    rw [fX3_runSteps_4, if_neg (nI_ge (by omega) (by omega)), zald_n (by omega) (by omega), zald_n (by omega) (by omega), x1, x2, f1, Option.bind_some]
    have step := ih (P ++ [(sp, wo)]) N (aUse (mkK st wy wg pl) a sp wo v b).1 (if 0 < aU a (sp / 8) then t ||| ((1 : Int32) <<< (nI P.length &&& 31)) else t) (h + zbn (decide (0 < aU a (sp / 8)))) (aUse (mkK st wy wg pl) a sp wo v b).2.1 (aUse (mkK st wy wg pl) a sp wo v b).2.2 u la sh d m ws e' (by omega) f3 (by rw [f4]; omega) f2
    rw [f4, show (P ++ [(sp, wo)]).length = P.length + 1 by simp] at step
    rw [show aC a + ((sp, wo) :: R).length = aC a + 1 + R.length by simp; omega]
    by_cases c : 0 < aU a (sp / 8)
    · rw [if_neg (show ¬ zbi (decide (0 < aU a (sp / 8))) = 0 by rw [decide_eq_true c]; decide)]
      simp only [zlet_e]
      rw [show nI P.length + 1 = nI (P.length + 1) from nI_1 _]
      rw [if_pos c] at step
      unfold aRun
      rw [if_pos c]
      exact step
    · rw [if_pos (show zbi (decide (0 < aU a (sp / 8))) = 0 by rw [decide_eq_false c]; decide)]
      simp only [zlet_e]
      rw [show nI P.length + 1 = nI (P.length + 1) from nI_1 _]
      rw [if_neg c] at step
      unfold aRun
      rw [if_neg c]
      exact step
end RUN
