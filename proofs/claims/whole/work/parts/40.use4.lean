section CLS
variable {st wy : Nat} {wg pl : Bool} {B : Nat} {used last shape dirty memory words : Nat → Int32}
theorem zRS_shape {k : zK} {a : zA} {l : Nat} {q : Int32} (hu : aU a l = 0) (hR : zRS k a used last shape dirty memory words) : zRS k a used last (upd shape l q) dirty memory words := by
  refine ⟨fun x hx => ?_, hR.2⟩
  obtain ⟨g1, g2, g3⟩ := hR.1 x hx
  refine ⟨g1, g2, fun hx2 => ⟨(g3 hx2).1, ?_⟩⟩
  rw [pk_un (fun z => by rw [z] at hx2; omega)]
  exact (g3 hx2).2
theorem aMr_Lw {k : zK} {s l need n v b x : Nat} {a : zA} : aLw (aMr k s l need n a v b).1 x = aLw a x := by
  unfold aLw
  rw [(aMr_keep n a v b).2.1]
theorem pX3_use (hsw : zSW st wy) {a : zA} {sp v b h : Nat} {wo : Option Nat} (hs : sp < 256) (hI : zIA B a) (hC : aC a + 1 ≤ B) (hR : zRS (mkK st wy wg pl) a used last shape dirty memory words) (hwo : ∀ w, wo = some w → w < 65536) :
    ∃ d la m sh u ws, fX3_use (nI st) (nI wy) (nI (zbn wg)) (nI (zbn pl)) (nI (aC a)) (nI h) (nI v) (nI b) dirty last memory shape used words (nI sp) (zov (-1) wo) =
      some (zbi (decide (0 < aU a (sp / 8))), nI (aC a + 1), nI (h + zbn (decide (0 < aU a (sp / 8)))), nI (aUse (mkK st wy wg pl) a sp wo v b).2.1, nI (aUse (mkK st wy wg pl) a sp wo v b).2.2, d, la, m, sh, u, ws) ∧
      zRS (mkK st wy wg pl) (aUse (mkK st wy wg pl) a sp wo v b).1 u la sh d m ws ∧ zIA B (aUse (mkK st wy wg pl) a sp wo v b).1 ∧ aC (aUse (mkK st wy wg pl) a sp wo v b).1 = aC a + 1 := by
  have hl : sp / 8 < 32 := by omega
  have hu := (hR.1 (sp / 8) hl).1
  have hub := (hI.1 (sp / 8) hl).2.2.2.1
  have hB := hI.2.2.2
  have hcl : aC (aUse (mkK st wy wg pl) a sp wo v b).1 = aC a + 1 := by
    have e0 : aC (aMiss (mkK st wy wg pl) a (sp / 8) v b).1 = aC a := by
      unfold aMiss
      split
      · rfl
      · exact (aMr_keep 32 a v b).1
    cases wo with
    | none => show aC (aMiss (mkK st wy wg pl) a (sp / 8) v b).1 + 1 = _; rw [e0]
    | some w => exact (aMr_keep 32 _ _ _).1.trans (show aC (aMiss (mkK st wy wg pl) a (sp / 8) v b).1 + 1 = _ by rw [e0])
  have hue : ∀ (a1 : zA) (v1 b1 : Nat), aMiss (mkK st wy wg pl) a (sp / 8) v b = (a1, v1, b1) → aUse (mkK st wy wg pl) a sp wo v b = aFin (mkK st wy wg pl) a1 sp wo v1 b1 := by
    intro a1 v1 b1 e
    unfold aUse
    rw [e]
  unfold fX3_use
  rw [show (8 : Int32) = nI 8 from rfl, zdiv_n (by omega) (by omega) (by omega), zald_n hl (by omega), hu]
  by_cases c : aU a (sp / 8) = 0
  · rw [if_pos ((nI_le0 (by omega)).mpr c), decide_eq_false (by omega)]
    have e1 : aMiss (mkK st wy wg pl) a (sp / 8) v b = aMr (mkK st wy wg pl) ((sp / 8) % st) (sp / 8) (zsg (kF (mkK st wy wg pl) (aLw a (sp / 8)))) 32 a v b := by
      unfold aMiss
      rw [if_neg (by omega)]
      rfl
    obtain ⟨d, m, u, f1, f2, f3⟩ := pX3_makeRoomFor (v := v) (b := b) (l := sp / 8) hsw hl hI (zRS_shape (q := nI (kF (mkK st wy wg pl) (aLw a (sp / 8)))) c hR) (kF_lt (mkK st wy wg pl) (aLw a (sp / 8))) pk_us
    rw [← e1] at f1 f2 f3
    have hk := aMr_keep (k := mkK st wy wg pl) (s := (sp / 8) % st) (l := sp / 8) (need := zsg (kF (mkK st wy wg pl) (aLw a (sp / 8)))) 32 a v b
    rw [← e1] at hk
    have hLw : aLw (aMiss (mkK st wy wg pl) a (sp / 8) v b).1 (sp / 8) = aLw a (sp / 8) := by rw [e1]; exact aMr_Lw
    obtain ⟨d2, la, m2, sh, u2, ws, g1, g2, g3⟩ := pX3_use70 (hit := false) (h := h) (v := (aMiss (mkK st wy wg pl) a (sp / 8) v b).2.1) (b := (aMiss (mkK st wy wg pl) a (sp / 8) v b).2.2) hsw hs f3 (by rw [hk.1]; exact hC) f2 (by rw [hLw]; exact pk_us) hwo
    rw [hk.1] at g1
    rw [show aFin (mkK st wy wg pl) (aMiss (mkK st wy wg pl) a (sp / 8) v b).1 sp wo (aMiss (mkK st wy wg pl) a (sp / 8) v b).2.1 (aMiss (mkK st wy wg pl) a (sp / 8) v b).2.2 = aUse (mkK st wy wg pl) a sp wo v b from rfl] at g1 g2 g3
    refine ⟨d2, la, m2, sh, u2, ws, ?_, g2, g3, hcl⟩
    unfold fX3_use_19
    rw [if_pos rfl]
    have go : ∀ q, q = nI (kF (mkK st wy wg pl) (aLw a (sp / 8))) → fX3_use_64 (nI st) (nI wy) (nI (zbn wg)) (nI (zbn pl)) (nI sp) (zov (-1) wo) (nI (sp / 8)) 0 q (nI (sp / 8)) (nI (aC a)) (nI h) (nI v) (nI b) dirty last memory shape used words = some (zbi false, nI (aC a + 1), nI h, nI (aUse (mkK st wy wg pl) a sp wo v b).2.1, nI (aUse (mkK st wy wg pl) a sp wo v b).2.2, d2, la, m2, sh, u2, ws) := by
      intro q hq
      unfold fX3_use_64
      rw [hq, zast_n hl (by omega), f1, Option.bind_some]
      exact g1
    rw [show nI (h + zbn false) = nI h from rfl]
    cases hpl : pl with
    | false =>
      rw [if_pos (show nI (zbn false) = (0 : Int32) from rfl), pX3_shape (a := a) (k := mkK st wy wg pl) hl (fun j hj => (hR.2 j hj).2), Option.bind_some]
      subst hpl
      exact go _ rfl
    | true =>
      rw [if_neg (show ¬ nI (zbn true) = (0 : Int32) by decide)]
      subst hpl
      exact go _ rfl
  · rw [if_neg (fun z => c ((nI_le0 (by omega)).mp z)), decide_eq_true (show 0 < aU a (sp / 8) by omega)]
    have e1 : aMiss (mkK st wy wg pl) a (sp / 8) v b = (a, v, b) := by
      unfold aMiss
      rw [if_pos (by omega)]
    obtain ⟨d2, la, m2, sh, u2, ws, g1, g2, g3⟩ := pX3_use70 (hit := true) (h := h + 1) (v := v) (b := b) hsw hs hI hC hR ((hR.1 (sp / 8) hl).2.2 (by omega)).2 hwo
    rw [← hue a v b e1] at g1 g2 g3
    refine ⟨d2, la, m2, sh, u2, ws, ?_, g2, g3, hcl⟩
    unfold fX3_use_19
    rw [if_neg (by decide), zlet_e, show nI h + 1 = nI (h + 1) from nI_1 h]
    exact g1
end CLS
