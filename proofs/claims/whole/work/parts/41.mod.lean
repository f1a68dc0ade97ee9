/-! ===== the model does what the abstract cache does ===== -/
section MOD
variable {st wy : Nat} {wg : Bool} {B : Nat} {a : zA} {x : Nat → Int32}
theorem zRX_W (hI : zIA B a) (hX : zRX a x) {l : Nat} (hl : l < 32) : zIsW x l (aLw a l) := by
  intro i hi
  obtain ⟨g1, g2, g3⟩ := hX.1 l hl
  have hB := hI.2.2.2
  have hu := (hI.1 l hl).2.2.2.1
  refine ⟨?_, (hI.2.2.1 (l * 8 + i) (by omega)).2⟩
  unfold zwo
  rw [g1]
  by_cases c : aU a l = 0
  · rw [if_pos ((nI_le0 (by omega)).mpr c), hX.2.1 _ (by omega), show 8 * l + i = l * 8 + i by omega]
    exact ((hI.1 l hl).2.2.1 ((hI.1 l hl).2.1 c) i hi).symm
  · rw [if_neg (fun z => c ((nI_le0 (by omega)).mp z))]
    exact (g3 (by omega)).2 i hi
theorem zcs_x (hI : zIA B a) (hX : zRX a x) {l : Nat} (hl : l < 32) : zcs (fun l => x (512 + l)) (-1) l = aCd a 99 l := by
  have h1 := (hX.1 l hl).1
  have h2 := (hI.1 l hl).2.2.2.1
  have h3 := hI.2.2.2
  unfold zcs aCd
  show (decide (0 < x (512 + l)) && !decide (nI l = -1)) = _
  rw [h1, decide_eq_decide.mpr (nIp (n := aU a l) (by omega)), decide_eq_decide.mpr (zBut_m l hl)]
theorem pX7_tags (hI : zIA B a) (hsw : zSW st wy) (hX : zRX a x) {s : Nat} (hs : s < st) : fX7_tagsIn (nI st) x (nI s) = some (nI (aTags (mkK st wy wg false) a s 99)) := by
  rw [pX7_tagsIn (used := fun l => x (512 + l)) hsw.1 hsw.2.1 hs (fun _ _ => rfl), zfilt (fun y hy => zcs_x hI hX hy)]
  rfl
theorem pX7_taken_loop (hI : zIA B a) (hsw : zSW st wy) (hX : zRX a x) : ∀ (m N l c : Nat), 32 ≤ l + m → m < N → l ≤ 40 → fX7_takenIn_4 (nI st) x N (nI c) (nI l) = some (nI (c + (((zlin st m l).filter (aCd a 99)).map (aS (mkK st wy wg false) a)).sum)) := by
  have h0 := hsw.1
  have h4 := hsw.2.1
  intro m
  induction m with
  | zero =>
    intro N l c h hN hl
    obtain ⟨N, rfl⟩ : ∃ k, N = k + 1 := ⟨N - 1, by omega⟩
    rw [fX7_takenIn_4, if_pos (n32 (by omega) (by omega))]
    simp [zlin]
  | succ m ih =>
    intro N l c h hN hl
    obtain ⟨N, rfl⟩ : ∃ k, N = k + 1 := ⟨N - 1, by omega⟩
    rw [fX7_takenIn_4]
    by_cases hlt : l < 32
    · have h1 := (hX.1 l hlt).1
      have h2 := (hI.1 l hlt).2.2.2.1
      have h3 := hI.2.2.2
      rw [if_neg (n32' hlt), pX7_isCachedNow hlt, Option.bind_some, h1]
      unfold zlin
      rw [if_pos hlt, List.filter_cons]
      by_cases hc : aU a l = 0
      · have hz : aCd a 99 l = false := by unfold aCd; simp [hc]
        rw [if_pos ((nI_le0 (by omega)).mpr hc), if_pos rfl]
        unfold fX7_takenIn_28
        rw [zlet_e, zlet_e, nI_add, show nI c + 0 = nI c from nI_add c 0, ih N (l + st) c (by omega) (by omega) (by omega), hz]
        simp
      · have hz : aCd a 99 l = true := by
          have : ¬ l = 99 := by omega
          unfold aCd; simp [this]; omega
        rw [if_neg (fun z => hc ((nI_le0 (by omega)).mp z)), if_neg (by decide), pX7_segmentsOf hlt (zRX_W hI hX hlt), Option.bind_some]
        unfold fX7_takenIn_28
        rw [zlet_e, zlet_e, nI_add, nI_add, ih N (l + st) _ (by omega) (by omega) (by omega), hz]
        rw [if_pos rfl, List.map_cons, List.sum_cons, show aS (mkK st wy wg false) a l = zsg (zform (aLw a l)) from rfl, Nat.add_assoc]
    · rw [if_pos (n32 (by omega) (by omega))]
      unfold zlin
      rw [if_neg hlt]
      simp
theorem pX7_taken (hI : zIA B a) (hsw : zSW st wy) (hX : zRX a x) {s : Nat} (hs : s < st) : fX7_takenIn (nI st) x (nI s) = some (nI (aTak (mkK st wy wg false) a s 99)) := by
  have h4 := hsw.2.1
  unfold fX7_takenIn
  exact (pX7_taken_loop (wg := wg) (wy := wy) hI hsw hX 32 zF s 0 (by omega) (zF_gt (by omega)) (by omega)).trans (by rw [Nat.zero_add]; rfl)
/-- a line's words go back to memory -/
theorem pX7_wb_loop {l : Nat} (hl : l < 32) {bk d : Int32} : ∀ (n N i : Nat) (y : Nat → Int32), i + n = 8 → n < N → (∀ j, y j = if 8 * l ≤ j ∧ j < 8 * l + i then x (256 + j) else x j) →
    ∃ z, fX7_writesBack_26 N (nI l) d (nI i) bk y = fX7_writesBack_64 (nI l) d bk z ∧ ∀ j, z j = if 8 * l ≤ j ∧ j < 8 * l + 8 then x (256 + j) else x j := by
  intro n
  induction n with
  | zero =>
    intro N i y h hN hy
    obtain ⟨N, rfl⟩ : ∃ k, N = k + 1 := ⟨N - 1, by omega⟩
    rw [fX7_writesBack_26, if_pos (n8 (by omega) (by omega))]
    exact ⟨y, rfl, by rw [show i = 8 by omega] at hy; exact hy⟩
  | succ n ih =>
    intro N i y h hN hy
    obtain ⟨N, rfl⟩ : ∃ k, N = k + 1 := ⟨N - 1, by omega⟩
    rw [fX7_writesBack_26, if_neg (n8' (by omega))]
    simp only [zlet_e]
    rw [show (8 : Int32) = nI 8 from rfl, pk_mul, nI_add, show (256 : Int32) = nI 256 from rfl, nI_add, nI_add, zald_n (by omega) (by omega), zast_n (by omega) (by omega), show nI i + 1 = nI (i + 1) from nI_1 i]
    refine ih N (i + 1) _ (by omega) (by omega) (fun j => ?_)
    by_cases c : j = 8 * l + i
    · rw [c, pk_us, if_pos (by omega), hy, if_neg (by omega), show 256 + 8 * l + i = 256 + (8 * l + i) by omega]
    · rw [pk_un c, hy]
      by_cases c2 : 8 * l ≤ j ∧ j < 8 * l + i
      · rw [if_pos c2, if_pos (by omega)]
      · rw [if_neg c2, if_neg (by omega)]
theorem pX7_writesBack (hI : zIA B a) (hX : zRX a x) {l b : Nat} (hl : l < 32) : ∃ y, fX7_writesBack (nI b) x (nI l) = some (zbi (decide (aD a l = 1)), nI (b + aD a l), y) ∧ zRX (aWb a l) y := by
  obtain ⟨g1, g2, g3⟩ := hX.1 l hl
  have hd := (hI.1 l hl).1
  have hdu := (hI.1 l hl).2.1
  have mk : ∀ z : Nat → Int32, (∀ j, z j = if aD a l = 1 ∧ 8 * l ≤ j ∧ j < 8 * l + 8 then x (256 + j) else x j) → zRX (aWb a l) (upd z (576 + l) 0) := by
    intro z hz
    have hz' : ∀ j, 256 ≤ j → z j = x j := fun j hj => by rw [hz, if_neg (by omega)]
    refine ⟨fun y hy => ?_, fun j hj => ?_, ?_⟩
    · obtain ⟨f1, f2, f3⟩ := hX.1 y hy
      rw [aWb_U, aWb_T, aWb_Dx hI hl, aWb_W]
      refine ⟨by rw [pk_un (by omega), hz' _ (by omega)]; exact f1, ?_, fun hu => ⟨by rw [pk_un (by omega), hz' _ (by omega)]; exact (f3 hu).1, fun i hi => by rw [pk_un (by omega), hz' _ (by omega)]; exact (f3 hu).2 i hi⟩⟩
      by_cases c : y = l
      · rw [if_pos c, c, pk_us]; rfl
      · rw [if_neg c, pk_un (by omega), hz' _ (by omega)]; exact f2
    · rw [pk_un (by omega), hz, aWb_Mx hI hl hj]
      by_cases c : l * 8 ≤ j ∧ j < l * 8 + 8
      · rw [if_pos c]
        by_cases cd : aD a l = 1
        · rw [if_pos ⟨cd, by omega, by omega⟩]
          have hu : 0 < aU a l := by
            rcases Nat.eq_zero_or_pos (aU a l) with h | h
            · have := hdu h; omega
            · exact h
          have := (g3 hu).2 (j - l * 8) (by omega)
          rw [show 256 + 8 * l + (j - l * 8) = 256 + j by omega, show l * 8 + (j - l * 8) = j by omega] at this
          exact this
        · rw [if_neg (fun q => cd q.1), hX.2.1 j hj]
          have := (hI.1 l hl).2.2.1 (by omega) (j - l * 8) (by omega)
          rw [show l * 8 + (j - l * 8) = j by omega] at this
          exact this.symm
      · rw [if_neg c, if_neg (fun q => c ⟨by omega, by omega⟩)]
        exact hX.2.1 j hj
    · rw [pk_un (by omega), hz' _ (by omega), aWb_C]
      exact hX.2.2
  unfold fX7_writesBack
  rw [zlet_e, show (576 : Int32) + nI l = nI (576 + l) from nI_add 576 l, zald_n (by omega) (by omega), g2]
  by_cases c : aD a l = 1
  · rw [if_pos (by rw [c]; rfl)]
    unfold fX7_writesBack_19
    rw [if_neg (by decide)]
    obtain ⟨z, e1, e2⟩ := pX7_wb_loop (x := x) hl (bk := nI b) (d := 1) 8 zF 0 x (by omega) (zF_gt (by omega)) (fun j => by rw [if_neg (by omega)])
    rw [show fX7_writesBack_26 zF (nI l) 1 0 (nI b) x = _ from e1]
    unfold fX7_writesBack_64
    rw [zlet_e, show (576 : Int32) + nI l = nI (576 + l) from nI_add 576 l, zast_n (by omega) (by omega), if_neg (by decide), zlet_e, zbl_n1, c, show nI b + 1 = nI (b + 1) from nI_1 b]
    exact ⟨_, rfl, mk z (fun j => by rw [e2]; by_cases q : 8 * l ≤ j ∧ j < 8 * l + 8; rw [if_pos q, if_pos ⟨c, q⟩]; rw [if_neg q, if_neg (fun r => q r.2)])⟩
  · rw [if_neg (show ¬ nI (aD a l) = (1 : Int32) from nIe (b := 1) (by omega) (by omega) c)]
    unfold fX7_writesBack_19
    rw [if_pos rfl]
    unfold fX7_writesBack_64
    rw [zlet_e, show (576 : Int32) + nI l = nI (576 + l) from nI_add 576 l, zast_n (by omega) (by omega), if_pos rfl, zlet_e, zbl_n0, show aD a l = 0 by omega, show nI b + 0 = nI b from nI_add b 0]
    exact ⟨_, rfl, mk x (fun j => by rw [if_neg (fun q => c q.1)])⟩
theorem pX7_leaves (hI : zIA B a) (hX : zRX a x) {l b : Nat} (hl : l < 32) : ∃ y, fX7_leaves (nI b) x (nI l) = some (zbi (decide (aD a l = 1)), nI (b + aD a l), y) ∧ zRX (aFg a l) y := by
  obtain ⟨y, e1, e2⟩ := pX7_writesBack (b := b) hI hX hl
  unfold fX7_leaves
  have hb : zbi (decide (aD a l = 1)) = 0 ∨ zbi (decide (aD a l = 1)) = 1 := by cases decide (aD a l = 1); exact Or.inl rfl; exact Or.inr rfl
  rw [e1, Option.bind_some, zlet_e, show (512 : Int32) + nI l = nI (512 + l) from nI_add 512 l, zast_n (by omega) (by omega), zlet_e, show (544 : Int32) + nI l = nI (544 + l) from nI_add 544 l, zast_n (by omega) (by omega), zbl_b hb]
  refine ⟨_, rfl, ⟨fun z hz => ?_, fun j hj => ?_, ?_⟩⟩
  · obtain ⟨f1, f2, f3⟩ := e2.1 z hz
    rw [aWb_U] at f1 f3
    show upd (upd y (512 + l) 0) (544 + l) 0 (512 + z) = nI (nup (aU a) l 0 z) ∧ upd (upd y (512 + l) 0) (544 + l) 0 (576 + z) = nI (aD (aWb a l) z) ∧ (0 < nup (aU a) l 0 z → upd (upd y (512 + l) 0) (544 + l) 0 (544 + z) = nI (aT (aWb a l) z) ∧ ∀ i, i < 8 → upd (upd y (512 + l) 0) (544 + l) 0 (256 + 8 * z + i) = aW (aWb a l) (z * 8 + i))
    unfold nup
    refine ⟨?_, by rw [pk_un (by omega), pk_un (by omega)]; exact f2, fun hu => ?_⟩
    · rw [pk_un (by omega)]
      by_cases c : z = l
      · rw [if_pos c, c, pk_us]; rfl
      · rw [if_neg c, pk_un (by omega)]; exact f1
    · by_cases c : z = l
      · rw [if_pos c] at hu; omega
      · rw [if_neg c] at hu
        exact ⟨by rw [pk_un (by omega), pk_un (by omega)]; exact (f3 hu).1, fun i hi => by rw [pk_un (by omega), pk_un (by omega)]; exact (f3 hu).2 i hi⟩
  · rw [pk_un (by omega), pk_un (by omega)]; exact e2.2.1 j hj
  · rw [pk_un (by omega), pk_un (by omega)]; exact e2.2.2
end MOD
