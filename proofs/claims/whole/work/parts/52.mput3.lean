/-! ===== the model's use or write = aUse ===== -/
section MPUT3
variable {st wy : Nat} {wg : Bool} {B : Nat} {a : zA} {x : Nat → Int32}
theorem aUse_T {k : zK} (hk : zKok k) {sp v b : Nat} {wo : Option Nat} (hs : sp < 256) (hT : zIT k a) : zIT k (aUse k a sp wo v b).1 := by
  have h1 := aMiss_T (v := v) (b := b) hk (show sp / 8 < 32 by omega) hT
  unfold aUse
  cases wo with
  | none => exact h1
  | some w => exact fun s hs => Nat.le_trans (aMr_T 32 _ _ _) (aPut_T (w := w) (sp := sp) h1 s hs)
theorem pX7_puts (hsw : zSW st wy) {sp w v b : Nat} {o : Int32} {od : Nat → Int32} (hs : sp < 256) (hw : w < 65536) (hI : zIA B a) (hC : aC a + 1 ≤ B) (hX : zRX a x) (hT : zIT (mkK st wy wg false) a) :
    ∃ o2 od2 y, fX7_puts (nI wy) (nI v) (nI b) o (nI st) (nI (zbn wg)) od x (nI (sp / 8)) (nI (sp % 8)) (nI w) = some (zbi (decide (0 < aU a (sp / 8))), nI (aUse (mkK st wy wg false) a sp (some w) v b).2.1, nI (aUse (mkK st wy wg false) a sp (some w) v b).2.2, o2, od2, y) ∧ zRX (aUse (mkK st wy wg false) a sp (some w) v b).1 y := by
  have hl : sp / 8 < 32 := by omega
  have hk : zKok (mkK st wy wg false) := mkK_ok hsw
  obtain ⟨o2, od2, y, e1, e2, e3⟩ := pX7_uses (wg := wg) (v := v) (b := b) (o := o) (od := od) hsw hl hI hC hX hT
  have h1 := aMiss_T (v := v) (b := b) hk hl hT
  have hu : 0 < aU (aTk (aMiss (mkK st wy wg false) a (sp / 8) v b).1 (sp / 8)) (sp / 8) := by
    show 0 < nup _ _ _ _
    unfold nup
    rw [if_pos rfl]
    omega
  unfold fX7_puts
  rw [e1, Option.bind_some]
  simp only [zlet_e]
  rw [show (8 : Int32) = nI 8 from rfl, pk_mul, show (256 : Int32) = nI 256 from rfl, nI_add, nI_add, zast_n (by omega) (by omega), show (576 : Int32) = nI 576 from rfl, nI_add, zast_n (by omega) (by omega)]
  obtain ⟨o3, od3, y3, f1, f2⟩ := pX7_puts34 (wg := wg) (B := B) (h := decide (0 < aU a (sp / 8))) hsw hl (aS_le (mkK st wy wg false) (aPut (aTk (aMiss (mkK st wy wg false) a (sp / 8) v b).1 (sp / 8)) sp w) (sp / 8)).2 32 zF (aPut (aTk (aMiss (mkK st wy wg false) a (sp / 8) v b).1 (sp / 8)) sp w) _ (aMiss (mkK st wy wg false) a (sp / 8) v b).2.1 (aMiss (mkK st wy wg false) a (sp / 8) v b).2.2 o2 od2 (zF_gt (by omega)) (aTags_le _ _ _ _) (aPut_I e3 hs hu hw) (zRX_Put hs e2) (aPut_T h1) hu rfl
  exact ⟨o3, od3, y3, f1, f2⟩
end MPUT3
