/-! ===== the model's write = the abstract write ===== -/
section MPUT
variable {st wy : Nat} {wg : Bool} {B : Nat} {x : Nat → Int32}
theorem pX7_puts34 (hsw : zSW st wy) {l need : Nat} {h : Bool} (hl : l < 32) (hn : need ≤ 4) : ∀ (n N : Nat) (a : zA) (x : Nat → Int32) (v b : Nat) (o : Int32) (od : Nat → Int32), n < N → aTags (mkK st wy wg false) a (l % st) l ≤ n → zIA B a → zRX a x → zIT (mkK st wy wg false) a → 0 < aU a l → aS (mkK st wy wg false) a l = need →
    ∃ o2 od2 y, fX7_puts_34 (nI wy) (nI st) (nI (zbn wg)) N (nI l) (zbi h) (nI v) (nI b) o od x = some (zbi h, nI (aMr (mkK st wy wg false) (l % st) l need n a v b).2.1, nI (aMr (mkK st wy wg false) (l % st) l need n a v b).2.2, o2, od2, y) ∧ zRX (aMr (mkK st wy wg false) (l % st) l need n a v b).1 y := by
  have h0 := hsw.1
  have hw1 := hsw.2.2.1
  have hw2 := hsw.2.2.2
  have hs : l % st < st := Nat.mod_lt _ (by omega)
  have hh : zbi h = 0 ∨ zbi h = 1 := by cases h; exact Or.inl rfl; exact Or.inr rfl
  intro n
  induction n with
  | zero =>
    intro N a x v b o od hN ht hI hX hT hu hneed
    obtain ⟨N, rfl⟩ : ∃ k, N = k + 1 := ⟨N - 1, by omega⟩
    have e : aCs (mkK st wy wg false) a (l % st) l = [] := List.length_eq_zero_iff.mp (by unfold aTags at ht; omega)
    have e2 : aTak (mkK st wy wg false) a (l % st) l = 0 := by unfold aTak; rw [e]; rfl
    have e3 : aTak (mkK st wy wg false) a (l % st) 99 = aTak (mkK st wy wg false) a (l % st) l + aS (mkK st wy wg false) a l := aTak_in (k := mkK st wy wg false) h0 hl hu
    rw [fX7_puts_34, pX7_setOf h0 hsw.2.1 hl, Option.bind_some, pX7_taken (wy := wy) (wg := wg) hI hsw hX hs, Option.bind_some, zlet_e, show (4 : Int32) = nI 4 from rfl, pk_mul, if_pos (nI_le (by omega) (by omega)), zbl_b hh]
    exact ⟨o, od, x, rfl, hX⟩
  | succ n ih =>
    intro N a x v b o od hN ht hI hX hT hu hneed
    obtain ⟨N, rfl⟩ : ∃ k, N = k + 1 := ⟨N - 1, by omega⟩
    have e3 : aTak (mkK st wy wg false) a (l % st) 99 = aTak (mkK st wy wg false) a (l % st) l + aS (mkK st wy wg false) a l := aTak_in (k := mkK st wy wg false) h0 hl hu
    have e4 : aTags (mkK st wy wg false) a (l % st) 99 = aTags (mkK st wy wg false) a (l % st) l + 1 := aTags_in (k := mkK st wy wg false) h0 hl hu
    have e5 : aTags (mkK st wy wg false) a (l % st) 99 ≤ 2 * wy := hT _ hs
    have e6 := aTak_le (k := mkK st wy wg false) (a := a) (s := l % st) (bn := 99)
    rw [fX7_puts_34, pX7_setOf h0 hsw.2.1 hl, Option.bind_some, pX7_taken (wy := wy) (wg := wg) hI hsw hX hs, Option.bind_some, zlet_e, show (4 : Int32) = nI 4 from rfl, pk_mul, Option.bind_some]
    unfold aMr
    rw [show (mkK st wy wg false).2.1 = 2 * wy from rfl, show (mkK st wy wg false).2.2.1 = 4 * wy from rfl]
    by_cases c : aTags (mkK st wy wg false) a (l % st) l < 2 * wy ∧ aTak (mkK st wy wg false) a (l % st) l + need ≤ 4 * wy
    · rw [if_pos c, if_pos (nI_le (by omega) (by omega)), zbl_b hh]
      exact ⟨o, od, x, rfl, hX⟩
    · rw [if_neg c, if_neg (nI_ge (by omega) (by omega))]
      cases hv : aVic (mkK st wy wg false) a (l % st) l with
      | none =>
        have e : aCs (mkK st wy wg false) a (l % st) l = [] := (zvf_none hv).2
        exfalso
        apply c
        unfold aTags aTak
        rw [e]
        simp
        omega
      | some q =>
        obtain ⟨o2, od2, y, g1, g2⟩ := pX7_goes (wg := wg) (v := v) (b := b) (o := o) (od := od) hI hsw hX (zBut_n hl) hs hv
        have hq := aVic_in hv
        rw [g1, Option.bind_some]
        have hul : 0 < aU (aFg a q) l := by
          rw [aFg_U]
          unfold nup
          rw [if_neg (fun z => hq.2.2.1 z.symm)]
          exact hu
        exact ih N (aFg a q) y (v + 1) (b + aD a q) o2 od2 (by omega) (by have := aTags_fg_lt hq.2.2.2; omega) (aFg_I hI hq.1) g2 (fun s2 h2 => Nat.le_trans aTags_fg (hT s2 h2)) hul (aFg_S.trans hneed)
end MPUT
