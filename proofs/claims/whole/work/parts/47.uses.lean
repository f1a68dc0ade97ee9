/-! ===== the model's use of a line ===== -/
section USES
variable {st wy : Nat} {wg : Bool} {B : Nat} {a : zA} {x : Nat → Int32}
theorem pX7_comes34 {c1 c2 c3 v b o : Int32} {od : Nat → Int32} {l : Nat} (hl : l < 32) : ∀ (n N i : Nat) (y : Nat → Int32), i + n = 8 → n < N → (∀ j, y j = if 256 + 8 * l ≤ j ∧ j < 256 + 8 * l + i then x (j - 256) else x j) →
    ∃ z, fX7_comes_34 c1 c2 c3 N (nI l) (nI i) v b o od y = some (v, b, o, od, upd z (576 + l) 0) ∧ ∀ j, z j = if 256 + 8 * l ≤ j ∧ j < 256 + 8 * l + 8 then x (j - 256) else x j := by
  intro n
  induction n with
  | zero =>
    intro N i y h hN hy
    obtain ⟨N, rfl⟩ : ∃ k, N = k + 1 := ⟨N - 1, by omega⟩
    rw [fX7_comes_34, if_pos (n8 (by omega) (by omega)), zlet_e, show (576 : Int32) + nI l = nI (576 + l) from nI_add 576 l, zast_n (by omega) (by omega)]
    exact ⟨y, rfl, by rw [show i = 8 by omega] at hy; exact hy⟩
  | succ n ih =>
    intro N i y h hN hy
    obtain ⟨N, rfl⟩ : ∃ k, N = k + 1 := ⟨N - 1, by omega⟩
    rw [fX7_comes_34, if_neg (n8' (by omega))]
    simp only [zlet_e]
    rw [show (8 : Int32) = nI 8 from rfl, pk_mul, nI_add, show (256 : Int32) = nI 256 from rfl, nI_add, nI_add, zald_n (by omega) (by omega), zast_n (by omega) (by omega), show nI i + 1 = nI (i + 1) from nI_1 i]
    refine ih N (i + 1) _ (by omega) (by omega) (fun j => ?_)
    by_cases c : j = 256 + 8 * l + i
    · rw [c, pk_us, if_pos (by omega), hy, if_neg (by omega), show 256 + 8 * l + i - 256 = 8 * l + i by omega]
    · rw [pk_un c, hy]
      by_cases c2 : 256 + 8 * l ≤ j ∧ j < 256 + 8 * l + i
      · rw [if_pos c2, if_pos (by omega)]
      · rw [if_neg c2, if_neg (by omega)]
theorem zRX_come (hI : zIA B a) (hX : zRX a x) {l : Nat} (hl : l < 32) (hu : aU a l = 0) {z : Nat → Int32} (hz : ∀ j, z j = if 256 + 8 * l ≤ j ∧ j < 256 + 8 * l + 8 then x (j - 256) else x j) :
    zRX a (upd z (576 + l) 0) ∧ ∀ i, i < 8 → upd z (576 + l) 0 (256 + 8 * l + i) = aW a (l * 8 + i) := by
  have hd := (hI.1 l hl).2.1 hu
  refine ⟨⟨fun y hy => ?_, fun j hj => ?_, ?_⟩, fun i hi => ?_⟩
  · obtain ⟨f1, f2, f3⟩ := hX.1 y hy
    refine ⟨by rw [pk_un (by omega), hz, if_neg (by omega)]; exact f1, ?_, fun hyu => ⟨by rw [pk_un (by omega), hz, if_neg (by omega)]; exact (f3 hyu).1, fun i hi => ?_⟩⟩
    · by_cases c : y = l
      · rw [c, pk_us, hd]; rfl
      · rw [pk_un (by omega), hz, if_neg (by omega)]; exact f2
    · have : ¬ y = l := fun e => by rw [e] at hyu; omega
      rw [pk_un (by omega), hz, if_neg (by omega)]
      exact (f3 hyu).2 i hi
  · rw [pk_un (by omega), hz, if_neg (by omega)]; exact hX.2.1 j hj
  · rw [pk_un (by omega), hz, if_neg (by omega)]; exact hX.2.2
  · rw [pk_un (by omega), hz, if_pos (by omega), show 256 + 8 * l + i - 256 = l * 8 + i by omega, hX.2.1 _ (by omega)]
    exact ((hI.1 l hl).2.2.1 hd i hi).symm
theorem aMr_U {k : zK} {s l need n v b : Nat} {a : zA} : aU (aMr k s l need n a v b).1 l = aU a l := (aMr_keep n a v b).2.2.2.1
theorem pX7_comes (hsw : zSW st wy) {l v b : Nat} {o : Int32} {od : Nat → Int32} (hl : l < 32) (hI : zIA B a) (hX : zRX a x) (hT : zIT (mkK st wy wg false) a) (hu : aU a l = 0) :
    ∃ o2 od2 y, fX7_comes (nI wy) (nI v) (nI b) o (nI st) (nI (zbn wg)) od x (nI l) = some (nI (aMr (mkK st wy wg false) (l % st) l (aS (mkK st wy wg false) a l) 32 a v b).2.1, nI (aMr (mkK st wy wg false) (l % st) l (aS (mkK st wy wg false) a l) 32 a v b).2.2, o2, od2, y) ∧ zRX (aMr (mkK st wy wg false) (l % st) l (aS (mkK st wy wg false) a l) 32 a v b).1 y ∧ zIA B (aMr (mkK st wy wg false) (l % st) l (aS (mkK st wy wg false) a l) 32 a v b).1 ∧ ∀ i, i < 8 → y (256 + 8 * l + i) = aW a (l * 8 + i) := by
  have h0 := hsw.1
  have hs : l % st < st := Nat.mod_lt _ (by omega)
  have hn := (aS_le (mkK st wy wg false) a l).2
  obtain ⟨o2, od2, y, e1, e2, e3⟩ := pX7_comes12 (wg := wg) (B := B) hsw hl hs hn 32 zF a x v b o od (zF_gt (by omega)) (aTags_le _ _ _ _) hI hX hT hu
  obtain ⟨z, f1, f2⟩ := pX7_comes34 (x := y) (c1 := nI wy) (c2 := nI st) (c3 := nI (zbn wg)) (v := nI (aMr (mkK st wy wg false) (l % st) l (aS (mkK st wy wg false) a l) 32 a v b).2.1) (b := nI (aMr (mkK st wy wg false) (l % st) l (aS (mkK st wy wg false) a l) 32 a v b).2.2) (o := o2) (od := od2) hl 8 zF 0 y rfl (zF_gt (by omega)) (fun j => by rw [if_neg (by omega)])
  obtain ⟨g1, g2⟩ := zRX_come e3 e2 hl (aMr_U.trans hu) f2
  refine ⟨o2, od2, _, ?_, g1, e3, fun i hi => (g2 i hi).trans (by rw [(aMr_keep 32 a v b).2.1])⟩
  unfold fX7_comes
  rw [pX7_setOf h0 hsw.2.1 hl, Option.bind_some, pX7_segmentsOf hl (zRX_W hI hX hl), Option.bind_some]
  exact e1.trans f1
/-- the clock goes on -/
def aCk (a : zA) : zA := (aU a, aT a, aD a, aM a, aW a, aC a + 1)
theorem aCk_I (hI : zIA B a) (hC : aC a + 1 ≤ B) : zIA B (aCk a) := by
  refine ⟨fun l hl => ?_, hI.2.1, hI.2.2.1, hC, hI.2.2.2.2⟩
  obtain ⟨h1, h2, h3, h4, h5⟩ := hI.1 l hl
  exact ⟨h1, h2, h3, Nat.le_succ_of_le h4, Nat.le_succ_of_le h5⟩
theorem aFg_Ck (a : zA) (q : Nat) : aFg (aCk a) q = aCk (aFg a q) := by
  unfold aFg aWb
  show _ = aCk _
  by_cases c : aD a q = 1
  · rw [if_pos (show aD (aCk a) q = 1 from c), if_pos c]; rfl
  · rw [if_neg (show ¬ aD (aCk a) q = 1 from c), if_neg c]; rfl
theorem aMr_Ck {k : zK} {s l need : Nat} : ∀ (n : Nat) (a : zA) (v b : Nat), aMr k s l need n (aCk a) v b = (aCk (aMr k s l need n a v b).1, (aMr k s l need n a v b).2)
  | 0, _, _, _ => rfl
  | n + 1, a, v, b => by
    unfold aMr
    rw [show aTags k (aCk a) s l = aTags k a s l from rfl, show aTak k (aCk a) s l = aTak k a s l from rfl, show aVic k (aCk a) s l = aVic k a s l from rfl]
    split
    · rfl
    · cases aVic k a s l with
      | none => rfl
      | some q =>
        show aMr k s l need n (aFg (aCk a) q) (v + 1) (b + aD a q) = _
        rw [aFg_Ck, aMr_Ck]
theorem pX7_uses27 {c1 c2 c3 v b o : Int32} {od : Nat → Int32} {l : Nat} {h : Bool} (hl : l < 32) (hX : zRX (aCk a) x) (hw : ∀ i, i < 8 → x (256 + 8 * l + i) = aW a (l * 8 + i)) : ∃ y, fX7_uses_27 c1 c2 c3 (nI l) (zbi h) v b o od x = some (zbi h, v, b, o, od, y) ∧ zRX (aTk a l) y := by
  unfold fX7_uses_27
  simp only [zlet_e]
  rw [show (512 : Int32) + nI l = nI (512 + l) from nI_add 512 l, zald_n (by omega) (by omega), zast_n (by omega) (by omega), show (608 : Int32) = nI 608 from rfl, zald_n (by omega) (by omega), show (544 : Int32) + nI l = nI (544 + l) from nI_add 544 l, zast_n (by omega) (by omega), zbl_b (by cases h; exact Or.inl rfl; exact Or.inr rfl)]
  refine ⟨_, rfl, fun y hy => ?_, fun j hj => ?_, ?_⟩
  · obtain ⟨f1, f2, f3⟩ := hX.1 y hy
    by_cases c : y = l
    · rw [c] at f1 f2 f3 ⊢
      refine ⟨?_, ?_, fun _ => ⟨?_, fun i hi => ?_⟩⟩
      · rw [pk_un (by omega), pk_us, f1, show nI (aU (aCk a) l) + 1 = nI (aU (aCk a) l + 1) from nI_1 _]
        show _ = nI (nup (aU a) l (aU a l + 1) l)
        unfold nup; rw [if_pos rfl]; rfl
      · rw [pk_un (by omega), pk_un (by omega), f2]; rfl
      · rw [pk_us, pk_un (by omega), hX.2.2]
        show _ = nI (nup (aT a) l (aC a + 1) l)
        unfold nup; rw [if_pos rfl]; rfl
      · rw [pk_un (by omega), pk_un (by omega)]; exact hw i hi
    · have eu : aU (aTk a l) y = aU a y := by show nup (aU a) l (aU a l + 1) y = _; unfold nup; rw [if_neg c]
      have et : aT (aTk a l) y = aT a y := by show nup (aT a) l (aC a + 1) y = _; unfold nup; rw [if_neg c]
      rw [eu, et]
      refine ⟨?_, ?_, fun hu => ⟨?_, fun i hi => ?_⟩⟩
      · rw [pk_un (by omega), pk_un (by omega)]; exact f1
      · rw [pk_un (by omega), pk_un (by omega)]; exact f2
      · rw [pk_un (by omega), pk_un (by omega)]; exact (f3 hu).1
      · rw [pk_un (by omega), pk_un (by omega)]; exact (f3 hu).2 i hi
  · rw [pk_un (by omega), pk_un (by omega)]; exact hX.2.1 j hj
  · rw [pk_un (by omega), pk_un (by omega)]; exact hX.2.2
end USES
