section CLS
variable {st wy : Nat} {wg pl : Bool} {B : Nat} {used last shape dirty memory words : Nat → Int32}
theorem zRS_Tk {k : zK} {a : zA} {l : Nat} (hl : l < 32) (hI : zIA B a) (hR : zRS k a used last shape dirty memory words) (hsl : shape l = nI (kF k (aLw a l))) : zRS k (aTk a l) (upd used l (nI (aU a l + 1))) (upd last l (nI (aC a + 1))) shape dirty memory words := by
  refine ⟨fun x hx => ?_, hR.2⟩
  obtain ⟨g1, g2, g3⟩ := hR.1 x hx
  show upd used l (nI (aU a l + 1)) x = nI (nup (aU a) l (aU a l + 1) x) ∧ dirty x = nI (aD a x) ∧ (0 < nup (aU a) l (aU a l + 1) x → upd last l (nI (aC a + 1)) x = nI (nup (aT a) l (aC a + 1) x) ∧ shape x = nI (kF k (aLw a x)))
  unfold upd nup
  by_cases c : x = l
  · rw [if_pos c, if_pos c, if_pos c, if_pos c]
    exact ⟨rfl, g2, fun _ => ⟨rfl, by rw [c]; exact hsl⟩⟩
  · rw [if_neg c, if_neg c, if_neg c, if_neg c]
    exact ⟨g1, g2, g3⟩
theorem aLw_put_ne {a : zA} {sp w x : Nat} (h : ¬ x = sp / 8) : ∀ i, i < 8 → aLw (aPut a sp w) x i = aLw a x i := fun i hi => by
  show wup (aW a) sp (nI w) (x * 8 + i) = aW a (x * 8 + i)
  unfold wup
  rw [if_neg (by omega)]
/-- a form hangs on the eight words alone -/
theorem zacc_cg {w w' : Nat → Int32} : ∀ (n j : Nat) (a : Int64), (∀ i, j ≤ i → i < j + n → w i = w' i) → zacc w n j a = zacc w' n j a
  | 0, _, _, _ => rfl
  | n + 1, j, a, h => by
    unfold zacc
    rw [h j (Nat.le_refl _) (by omega)]
    exact zacc_cg n (j + 1) _ (fun i h1 h2 => h i (by omega) (by omega))
theorem zlane_cg {w w' : Nat → Int32} {f k : Nat} (h : 2 ≤ f ∧ f ≤ 6) (hk : k < zlanes f) (hw : ∀ i, i < 8 → w i = w' i) : zlane w f k = zlane w' f k := by
  obtain ⟨m1, m2, m3, m4⟩ := zmany_c h
  have hb : zmany f * k + zmany f ≤ 8 := by
    have : zmany f * (k + 1) ≤ zmany f * zlanes f := Nat.mul_le_mul_left _ hk
    rw [Nat.mul_add, Nat.mul_one] at this
    omega
  exact zacc_cg _ _ _ (fun i _ h2 => hw i (by omega))
theorem zbase_cg {w w' : Nat → Int32} {f : Nat} (h : 2 ≤ f ∧ f ≤ 6) (hw : ∀ i, i < 8 → w i = w' i) : ∀ (n k : Nat), k + n ≤ zlanes f → zbase w f n k = zbase w' f n k
  | 0, _, _ => rfl
  | n + 1, k, hk => by
    unfold zbase
    rw [zlane_cg h (by omega) hw, zbase_cg h hw n (k + 1) (by omega)]
theorem zall_cg {w w' : Nat → Int32} {f : Nat} (h : 2 ≤ f ∧ f ≤ 6) (hw : ∀ i, i < 8 → w i = w' i) : ∀ (n k : Nat), k + n ≤ zlanes f → zall w f n k = zall w' f n k
  | 0, _, _ => rfl
  | n + 1, k, hk => by
    unfold zall zdif zB
    rw [zlane_cg h (by omega) hw, zbase_cg h hw _ 0 (by omega), zall_cg h hw n (k + 1) (by omega)]
theorem zfull_cg {w w' : Nat → Int32} {v : Int32} (hw : ∀ i, i < 8 → w i = w' i) : ∀ (n k : Nat), k + n ≤ 8 → zfull w v n k = zfull w' v n k
  | 0, _, _ => rfl
  | n + 1, k, hk => by
    unfold zfull
    rw [hw k (by omega), zfull_cg hw n (k + 1) (by omega)]
theorem zfit_cg {w w' : Nat → Int32} (hw : ∀ i, i < 8 → w i = w' i) {f : Nat} (hf : f < 8) : zfit w f = zfit w' f := by
  unfold zfit
  by_cases c7 : f = 7
  · rw [if_pos c7, if_pos c7]
  · rw [if_neg c7, if_neg c7]
    by_cases c0 : f = 0
    · rw [if_pos c0, if_pos c0, zfull_cg hw 8 0 (by omega)]
    · rw [if_neg c0, if_neg c0]
      by_cases c1 : f = 1
      · rw [if_pos c1, if_pos c1, hw 0 (by omega), zfull_cg hw 8 0 (by omega)]
      · rw [if_neg c1, if_neg c1, zall_cg ⟨by omega, by omega⟩ hw _ 0 (by omega)]
theorem zfst_cg {w w' : Nat → Int32} (hw : ∀ i, i < 8 → w i = w' i) : ∀ (n f : Nat), f + n ≤ 7 → zfst w n f = zfst w' n f
  | 0, _, _ => rfl
  | n + 1, f, hf => by
    unfold zfst
    rw [zfit_cg hw (by omega), zfst_cg hw n (f + 1) (by omega)]
theorem zform_cg {w w' : Nat → Int32} (hw : ∀ i, i < 8 → w i = w' i) : zform w = zform w' := zfst_cg hw 7 0 (by omega)
theorem kF_cg {k : zK} {w w' : Nat → Int32} (hw : ∀ i, i < 8 → w i = w' i) : kF k w = kF k w' := by
  unfold kF
  rw [zform_cg hw]
theorem zRS_Put {k : zK} {a : zA} {sp w : Nat} (hs : sp < 256) (hR : zRS k a used last shape dirty memory words) : zRS k (aPut a sp w) used last (upd shape (sp / 8) (nI (kF k (aLw (aPut a sp w) (sp / 8))))) (upd dirty (sp / 8) 1) memory (upd words sp (nI w)) := by
  refine ⟨fun x hx => ?_, fun j hj => ⟨(hR.2 j hj).1, ?_⟩⟩
  · obtain ⟨g1, g2, g3⟩ := hR.1 x hx
    show used x = nI (aU a x) ∧ upd dirty (sp / 8) 1 x = nI (nup (aD a) (sp / 8) 1 x) ∧ (0 < aU a x → last x = nI (aT a x) ∧ upd shape (sp / 8) (nI (kF k (aLw (aPut a sp w) (sp / 8)))) x = nI (kF k (aLw (aPut a sp w) x)))
    unfold upd nup
    by_cases c : x = sp / 8
    · rw [if_pos c, if_pos c, if_pos c]
      exact ⟨g1, rfl, fun hu => ⟨(g3 hu).1, by rw [c]⟩⟩
    · rw [if_neg c, if_neg c, if_neg c]
      exact ⟨g1, g2, fun hu => ⟨(g3 hu).1, by rw [kF_cg (aLw_put_ne (w := w) (a := a) c)]; exact (g3 hu).2⟩⟩
  · show upd words sp (nI w) j = wup (aW a) sp (nI w) j
    unfold upd wup
    by_cases c : j = sp
    · rw [if_pos c, if_pos c]
    · rw [if_neg c, if_neg c]; exact (hR.2 j hj).2
/-- the class's form of a line -/
theorem pX3_shape {k : zK} {a : zA} {l : Nat} {ws : Nat → Int32} (hl : l < 32) (hw : ∀ j, j < 256 → ws j = aW a j) : fX2_shortest 256 ws (nI l) = some (nI (zform (aLw a l))) := pX2_shortest hl (fun j hj => hw _ (by omega))
/-- the class: a use of a line that has its room -/
theorem pX3_use70 (hsw : zSW st wy) {a : zA} {sp v b h : Nat} {wo : Option Nat} {hit : Bool} (hs : sp < 256) (hI : zIA B a) (hC : aC a + 1 ≤ B) (hR : zRS (mkK st wy wg pl) a used last shape dirty memory words) (hsl : shape (sp / 8) = nI (kF (mkK st wy wg pl) (aLw a (sp / 8)))) (hwo : ∀ w, wo = some w → w < 65536) :
    ∃ d la m sh u ws, fX3_use_70 (nI st) (nI wy) (nI (zbn wg)) (nI (zbn pl)) (nI sp) (zov (-1) wo) (nI (sp / 8)) (zbi hit) (nI (aC a)) (nI h) (nI v) (nI b) dirty last memory shape used words =
      some (zbi hit, nI (aC a + 1), nI h, nI (aFin (mkK st wy wg pl) a sp wo v b).2.1, nI (aFin (mkK st wy wg pl) a sp wo v b).2.2, d, la, m, sh, u, ws) ∧
      zRS (mkK st wy wg pl) (aFin (mkK st wy wg pl) a sp wo v b).1 u la sh d m ws ∧ zIA B (aFin (mkK st wy wg pl) a sp wo v b).1 := by
  have hl : sp / 8 < 32 := by omega
  have hB := hI.2.2.2.2
  have hu := (hR.1 (sp / 8) hl).1
  have hb : zbi hit = 0 ∨ zbi hit = 1 := by cases hit; exact Or.inl rfl; exact Or.inr rfl
  have hR2 := zRS_Tk hl hI hR hsl
  have hI2 := aTk_I hI hC hl hB
  unfold fX3_use_70
  rw [zald_n hl (by omega), zlet_e, hu, show nI (aU a (sp / 8)) + 1 = nI (aU a (sp / 8) + 1) from nI_1 _, zast_n hl (by omega), zlet_e, show nI (aC a) + 1 = nI (aC a + 1) from nI_1 _, zast_n hl (by omega)]
  cases wo with
  | none =>
    rw [if_pos (show zov (-1) none < 0 by decide), zbl_b hb]
    exact ⟨_, _, _, _, _, _, rfl, hR2, hI2⟩
  | some w =>
    have hw := hwo w rfl
    have hU : 0 < aU (aTk a (sp / 8)) (sp / 8) := by
      show 0 < nup (aU a) (sp / 8) (aU a (sp / 8) + 1) (sp / 8)
      unfold nup
      rw [if_pos rfl]
      omega
    have hI3 := aPut_I hI2 hs hU hw
    have hR3 := zRS_Put (w := w) hs hR2
    rw [if_neg (show ¬ zov (-1) (some w) < 0 from nI_pos (by omega)), show zov (-1) (some w) = nI w from rfl, zast_n hs (by omega), zast_n hl (by omega)]
    have fin : fX3_use_143 (nI st) (nI wy) (nI (zbn wg)) (nI (zbn pl)) (nI (sp / 8)) (zbi hit) (nI (kF (mkK st wy wg pl) (aLw (aPut (aTk a (sp / 8)) sp w) (sp / 8)))) (nI (sp / 8)) (nI (aC a + 1)) (nI h) (nI v) (nI b) (upd dirty (sp / 8) 1) (upd last (sp / 8) (nI (aC a + 1))) memory shape (upd used (sp / 8) (nI (aU a (sp / 8) + 1))) (upd words sp (nI w)) = (fX3_makeRoomFor (nI st) (nI wy) (nI (zbn wg)) (nI (zbn pl)) (nI v) (nI b) (upd dirty (sp / 8) 1) (upd last (sp / 8) (nI (aC a + 1))) memory (upd shape (sp / 8) (nI (kF (mkK st wy wg pl) (aLw (aPut (aTk a (sp / 8)) sp w) (sp / 8))))) (upd used (sp / 8) (nI (aU a (sp / 8) + 1))) (upd words sp (nI w)) (nI (sp / 8))).bind fun x2 => some (zbi hit, nI (aC a + 1), nI h, x2.1, x2.2.1, x2.2.2.1, upd last (sp / 8) (nI (aC a + 1)), x2.2.2.2.1, upd shape (sp / 8) (nI (kF (mkK st wy wg pl) (aLw (aPut (aTk a (sp / 8)) sp w) (sp / 8)))), x2.2.2.2.2, upd words sp (nI w)) := by
      unfold fX3_use_143
      rw [zast_n hl (by omega)]
      simp only [zbl_b hb]
    obtain ⟨d, m, u, e1, e2, e3⟩ := pX3_makeRoomFor (v := v) (b := b) hsw hl hI3 hR3 (kF_lt _ _) (show upd shape (sp / 8) (nI (kF (mkK st wy wg pl) (aLw (aPut (aTk a (sp / 8)) sp w) (sp / 8)))) (sp / 8) = _ from pk_us)
    have go : ∀ q, q = nI (kF (mkK st wy wg pl) (aLw (aPut (aTk a (sp / 8)) sp w) (sp / 8))) → fX3_use_143 (nI st) (nI wy) (nI (zbn wg)) (nI (zbn pl)) (nI (sp / 8)) (zbi hit) q (nI (sp / 8)) (nI (aC a + 1)) (nI h) (nI v) (nI b) (upd dirty (sp / 8) 1) (upd last (sp / 8) (nI (aC a + 1))) memory shape (upd used (sp / 8) (nI (aU a (sp / 8) + 1))) (upd words sp (nI w)) = some (zbi hit, nI (aC a + 1), nI h, nI (aWr (mkK st wy wg pl) (aTk a (sp / 8)) sp w v b).2.1, nI (aWr (mkK st wy wg pl) (aTk a (sp / 8)) sp w v b).2.2, d, upd last (sp / 8) (nI (aC a + 1)), m, upd shape (sp / 8) (nI (kF (mkK st wy wg pl) (aLw (aPut (aTk a (sp / 8)) sp w) (sp / 8)))), u, upd words sp (nI w)) := by
      intro q hq
      rw [hq, fin, e1, Option.bind_some]
      rfl
    refine ⟨d, _, m, _, u, _, ?_, e2, e3⟩
    cases hpl : pl with
    | false =>
      rw [if_pos (show nI (zbn false) = (0 : Int32) from rfl), pX3_shape (a := aPut (aTk a (sp / 8)) sp w) (k := mkK st wy wg pl) hl (fun j hj => (hR3.2 j hj).2), Option.bind_some]
      subst hpl
      exact go _ rfl
    | true =>
      rw [if_neg (show ¬ nI (zbn true) = (0 : Int32) by decide)]
      subst hpl
      exact go _ rfl
end CLS
