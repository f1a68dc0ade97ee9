/-! ===== a line comes into the model's cache ===== -/
section COME
variable {st wy : Nat} {wg : Bool} {B : Nat} {a : zA} {x : Nat → Int32}
theorem pX7_goes (hI : zIA B a) (hsw : zSW st wy) (hX : zRX a x) {s bn v b q : Nat} {o but : Int32} {od : Nat → Int32} (hb : zBut but bn) (hs : s < st) (hv : aVic (mkK st wy wg false) a s bn = some q) :
    ∃ o2 od2 y, fX7_goes (nI v) (nI b) o (nI st) (nI (zbn wg)) od x (nI s) but = some (nI (v + 1), nI (b + aD a q), o2, od2, y) ∧ zRX (aFg a q) y := by
  obtain ⟨o2, od2, e1⟩ := pX7_victimOf (wg := wg) (o := o) (od := od) hI hsw hX hb hs
  obtain ⟨y, e2, e3⟩ := pX7_leaves (b := b) hI hX (aVic_in hv).1
  refine ⟨o2, od2, y, ?_, e3⟩
  unfold fX7_goes
  rw [e1, Option.bind_some, hv]
  show (fX7_leaves (nI b) x (nI q)).bind _ = _
  rw [e2, Option.bind_some, zlet_e, show nI v + 1 = nI (v + 1) from nI_1 _]
theorem aCs_99 {k : zK} {s l : Nat} (h : aU a l = 0) : aCs k a s 99 = aCs k a s l := by
  unfold aCs
  refine zfilt (fun y hy => ?_)
  rw [aCd_split a hy (l := l)]
  by_cases c : y = l
  · unfold aCd; rw [c, h]; simp
  · simp [c]
theorem aTak_le {k : zK} {s bn : Nat} : aTak k a s bn ≤ 4 * aTags k a s bn := by
  unfold aTak aTags
  generalize aCs k a s bn = L
  induction L with
  | nil => simp
  | cons y L ih =>
    have := (aS_le k a y).2
    rw [List.map_cons, List.sum_cons, List.length_cons]
    omega
theorem pX7_hasRoom (hI : zIA B a) (hsw : zSW st wy) (hX : zRX a x) (hT : zIT (mkK st wy wg false) a) {s need : Nat} (hs : s < st) (hn : need ≤ 4) :
    fX7_hasRoom (nI wy) (nI st) x (nI s) (nI need) = some (zbi (decide (aTags (mkK st wy wg false) a s 99 < 2 * wy ∧ aTak (mkK st wy wg false) a s 99 + need ≤ 4 * wy))) := by
  have ht : aTags (mkK st wy wg false) a s 99 ≤ 2 * wy := hT s hs
  have hw := hsw.2.2.2
  have h4 := aTak_le (k := mkK st wy wg false) (a := a) (s := s) (bn := 99)
  unfold fX7_hasRoom
  rw [pX7_tags (wy := wy) (wg := wg) hI hsw hX hs, Option.bind_some, zlet_e, show (2 : Int32) = nI 2 from rfl, pk_mul]
  by_cases c : aTags (mkK st wy wg false) a s 99 = 2 * wy
  · rw [if_pos (by rw [c]), decide_eq_false (by omega)]; rfl
  · rw [if_neg (fun z => c ((nI_eq (by omega) (by omega)).mp z)), pX7_taken (wy := wy) (wg := wg) hI hsw hX hs, Option.bind_some, zlet_e, zlet_e, nI_add, show (4 : Int32) = nI 4 from rfl, pk_mul]
    by_cases d : 4 * wy < aTak (mkK st wy wg false) a s 99 + need
    · rw [if_pos (nI_lt d (by omega)), decide_eq_false (by omega)]; rfl
    · rw [if_neg (nI_nlt (by omega) (by omega)), decide_eq_true (by omega)]; rfl
theorem pX7_comes12 (hsw : zSW st wy) {l s need : Nat} (hl : l < 32) (hs : s < st) (hn : need ≤ 4) : ∀ (n N : Nat) (a : zA) (x : Nat → Int32) (v b : Nat) (o : Int32) (od : Nat → Int32), n < N → aTags (mkK st wy wg false) a s l ≤ n → zIA B a → zRX a x → zIT (mkK st wy wg false) a → aU a l = 0 →
    ∃ o2 od2 y, fX7_comes_12 (nI wy) (nI st) (nI (zbn wg)) N (nI l) (nI s) (nI need) (nI v) (nI b) o od x = fX7_comes_34 (nI wy) (nI st) (nI (zbn wg)) zF (nI l) 0 (nI (aMr (mkK st wy wg false) s l need n a v b).2.1) (nI (aMr (mkK st wy wg false) s l need n a v b).2.2) o2 od2 y ∧ zRX (aMr (mkK st wy wg false) s l need n a v b).1 y ∧ zIA B (aMr (mkK st wy wg false) s l need n a v b).1 := by
  have hw1 := hsw.2.2.1
  have hw2 := hsw.2.2.2
  intro n
  induction n with
  | zero =>
    intro N a x v b o od hN ht hI hX hT hu
    obtain ⟨N, rfl⟩ : ∃ k, N = k + 1 := ⟨N - 1, by omega⟩
    have e : aCs (mkK st wy wg false) a s 99 = [] := by rw [aCs_99 hu]; exact List.length_eq_zero_iff.mp (by unfold aTags at ht; omega)
    have e1 : aTags (mkK st wy wg false) a s 99 = 0 := by unfold aTags; rw [e]; rfl
    have e2 : aTak (mkK st wy wg false) a s 99 = 0 := by unfold aTak; rw [e]; rfl
    rw [fX7_comes_12, pX7_hasRoom (wg := wg) hI hsw hX hT hs hn, Option.bind_some, decide_eq_true (by omega), if_neg (by decide)]
    exact ⟨o, od, x, rfl, hX, hI⟩
  | succ n ih =>
    intro N a x v b o od hN ht hI hX hT hu
    obtain ⟨N, rfl⟩ : ∃ k, N = k + 1 := ⟨N - 1, by omega⟩
    rw [fX7_comes_12, pX7_hasRoom (wg := wg) hI hsw hX hT hs hn, Option.bind_some]
    have e1 : aTags (mkK st wy wg false) a s 99 = aTags (mkK st wy wg false) a s l := by unfold aTags; rw [aCs_99 hu]
    have e2 : aTak (mkK st wy wg false) a s 99 = aTak (mkK st wy wg false) a s l := by unfold aTak; rw [aCs_99 hu]
    have e3 : aVic (mkK st wy wg false) a s 99 = aVic (mkK st wy wg false) a s l := by unfold aVic; rw [aCs_99 hu]
    rw [e1, e2]
    unfold aMr
    rw [show (mkK st wy wg false).2.1 = 2 * wy from rfl, show (mkK st wy wg false).2.2.1 = 4 * wy from rfl]
    by_cases c : aTags (mkK st wy wg false) a s l < 2 * wy ∧ aTak (mkK st wy wg false) a s l + need ≤ 4 * wy
    · rw [decide_eq_true c, if_neg (show ¬ zbi true = 0 by decide), if_pos c]
      exact ⟨o, od, x, rfl, hX, hI⟩
    · rw [decide_eq_false c, if_pos (show zbi false = 0 by decide), if_neg c]
      cases hv : aVic (mkK st wy wg false) a s l with
      | none =>
        have e : aCs (mkK st wy wg false) a s l = [] := (zvf_none hv).2
        exfalso
        apply c
        unfold aTags aTak
        rw [e]
        simp
        omega
      | some q =>
        obtain ⟨o2, od2, y, g1, g2⟩ := pX7_goes (wg := wg) (v := v) (b := b) (o := o) (od := od) hI hsw hX zBut_2 hs (e3.trans hv)
        have hq := aVic_in hv
        rw [g1, Option.bind_some]
        have hul : aU (aFg a q) l = 0 := by
          rw [aFg_U]
          unfold nup
          split
          · rfl
          · exact hu
        exact ih N (aFg a q) y (v + 1) (b + aD a q) o2 od2 (by omega) (by have := aTags_fg_lt hq.2.2.2; omega) (aFg_I hI hq.1) g2 (fun s2 h2 => Nat.le_trans aTags_fg (hT s2 h2)) hul
end COME
