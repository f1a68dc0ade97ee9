/-! ===== the model's use = the abstract use ===== -/
section MUSE
variable {st wy : Nat} {wg : Bool} {B : Nat} {a : zA} {x : Nat → Int32}
theorem aMr_I {k : zK} {s l need : Nat} : ∀ {a : zA}, zIA B a → ∀ (n v b : Nat), zIA B (aMr k s l need n a v b).1 := by
  intro a hI n
  induction n generalizing a with
  | zero => intro v b; exact hI
  | succ n ih =>
    intro v b
    unfold aMr
    split
    · exact hI
    · split
      · exact hI
      · rename_i q hq
        exact ih (aFg_I hI (aVic_in hq).1) _ _
theorem aMiss_T {k : zK} (hk : zKok k) {l v b : Nat} (hl : l < 32) (hT : zIT k a) : zIT k (aTk (aMiss k a l v b).1 l) := by
  unfold aMiss
  by_cases c : 0 < aU a l
  · rw [if_pos c]
    have h1 := aTags_in (k := k) hk.1 hl c
    have h2 := hT (l % k.1) (Nat.mod_lt _ hk.1)
    show zIT k (aTk a l)
    exact aTk_T hk.1 hl hT (by omega)
  · rw [if_neg c]
    exact aTk_T hk.1 hl (fun s hs => Nat.le_trans (aMr_T 32 a v b) (hT s hs)) (aMr_room hk (aS_le k a l).2 32 a v b (aTags_le _ _ _ _)).1
theorem pX7_uses (hsw : zSW st wy) {l v b : Nat} {o : Int32} {od : Nat → Int32} (hl : l < 32) (hI : zIA B a) (hC : aC a + 1 ≤ B) (hX : zRX a x) (hT : zIT (mkK st wy wg false) a) :
    ∃ o2 od2 y, fX7_uses (nI wy) (nI v) (nI b) o (nI st) (nI (zbn wg)) od x (nI l) = some (zbi (decide (0 < aU a l)), nI (aMiss (mkK st wy wg false) a l v b).2.1, nI (aMiss (mkK st wy wg false) a l v b).2.2, o2, od2, y) ∧ zRX (aTk (aMiss (mkK st wy wg false) a l v b).1 l) y ∧ zIA B (aTk (aMiss (mkK st wy wg false) a l v b).1 l) := by
  have hB := hI.2.2.2
  have hub := (hI.1 l hl).2.2.2.1
  have hX1 := zRX_Ck hX
  have hI1 := aCk_I hI hC
  unfold fX7_uses
  rw [show (608 : Int32) = nI 608 from rfl, zald_n (by omega) (by omega), zlet_e, hX.2.2, show nI (aC a) + 1 = nI (aC a + 1) from nI_1 _, zast_n (by omega) (by omega), pX7_isCachedNow hl, Option.bind_some, pk_un (by omega), (hX.1 l hl).1]
  have hz : (if nI (aU a l) ≤ 0 then (0 : Int32) else 1) = zbi (decide (0 < aU a l)) := by
    by_cases c : 0 < aU a l
    · rw [if_neg (fun z => by have := (nI_le0 (n := aU a l) (by omega)).mp z; omega), decide_eq_true c]; rfl
    · rw [if_pos ((nI_le0 (by omega)).mpr (by omega)), decide_eq_false c]; rfl
  rw [hz]
  unfold aMiss
  by_cases c : 0 < aU a l
  · rw [if_pos c, decide_eq_true c, if_neg (show ¬ zbi true = 0 by decide)]
    obtain ⟨y, e1, e2⟩ := pX7_uses27 (c1 := nI wy) (c2 := nI st) (c3 := nI (zbn wg)) (v := nI v) (b := nI b) (o := o) (od := od) (h := true) hl hX1 (fun i hi => ((hX1.1 l hl).2.2 c).2 i hi)
    exact ⟨o, od, y, e1, e2, aTk_I hI hC hl hB.2⟩
  · rw [if_neg c, decide_eq_false c, if_pos (show zbi false = 0 from rfl)]
    obtain ⟨o2, od2, y, e1, e2, e3, e4⟩ := pX7_comes (wg := wg) (v := v) (b := b) (o := o) (od := od) hsw hl hI1 hX1 hT (show aU (aCk a) l = 0 by show aU a l = 0; omega)
    rw [show aS (mkK st wy wg false) (aCk a) l = aS (mkK st wy wg false) a l from rfl, aMr_Ck] at e1 e2 e3
    rw [e1, Option.bind_some]
    obtain ⟨y2, f1, f2⟩ := pX7_uses27 (c1 := nI wy) (c2 := nI st) (c3 := nI (zbn wg)) (v := nI (aMr (mkK st wy wg false) (l % st) l (aS (mkK st wy wg false) a l) 32 a v b).2.1) (b := nI (aMr (mkK st wy wg false) (l % st) l (aS (mkK st wy wg false) a l) 32 a v b).2.2) (o := o2) (od := od2) (h := false) hl e2 (fun i hi => (e4 i hi).trans (by rw [(aMr_keep 32 a v b).2.1]; rfl))
    refine ⟨o2, od2, y2, f1, f2, ?_⟩
    exact aTk_I (aMr_I hI 32 v b) (by rw [(aMr_keep 32 a v b).1]; exact hC) hl hB.2
end MUSE
