/-- what making room leaves as it is -/
theorem aFg_C (a : zA) (q : Nat) : aC (aFg a q) = aC a := aWb_C q
theorem aFg_W (a : zA) (q : Nat) : aW (aFg a q) = aW a := aWb_W q
theorem aFg_T (a : zA) (q : Nat) : aT (aFg a q) = aT a := aWb_T q
theorem aMr_keep {k : zK} {s l need : Nat} : ∀ (n : Nat) (a : zA) (v b : Nat), aC (aMr k s l need n a v b).1 = aC a ∧ aW (aMr k s l need n a v b).1 = aW a ∧ aT (aMr k s l need n a v b).1 = aT a ∧ aU (aMr k s l need n a v b).1 l = aU a l ∧ aD (aMr k s l need n a v b).1 l = aD a l := by
  intro n
  induction n with
  | zero => intro a v b; exact ⟨rfl, rfl, rfl, rfl, rfl⟩
  | succ n ih =>
    intro a v b
    unfold aMr
    split
    · exact ⟨rfl, rfl, rfl, rfl, rfl⟩
    · cases hv : aVic k a s l with
      | none => exact ⟨rfl, rfl, rfl, rfl, rfl⟩
      | some q =>
        obtain ⟨-, -, q3, -⟩ := aVic_in hv
        obtain ⟨h1, h2, h3, h4, h5⟩ := ih (aFg a q) (v + 1) (b + aD a q)
        refine ⟨h1.trans (aFg_C a q), h2.trans (aFg_W a q), h3.trans (aFg_T a q), h4.trans ?_, h5.trans ?_⟩
        · show nup (aU a) q 0 l = aU a l
          unfold nup
          rw [if_neg (fun z => q3 z.symm)]
        · show aD (aWb a q) l = aD a l
          unfold aWb
          split
          · show nup (aD a) q 0 l = aD a l
            unfold nup
            rw [if_neg (fun z => q3 z.symm)]
          · rfl
def mkK (st wy : Nat) (wg pl : Bool) : zK := (st, if pl then wy else 2 * wy, 4 * wy, wg, pl)
def zSW (st wy : Nat) : Prop := 1 ≤ st ∧ st ≤ 4 ∧ 1 ≤ wy ∧ wy ≤ 4
theorem mkK_ok {st wy : Nat} {wg pl : Bool} (h : zSW st wy) : zKok (mkK st wy wg pl) := by
  obtain ⟨h1, h2, h3, h4⟩ := h
  refine ⟨h1, h2, ?_, ?_, ?_, ?_⟩ <;> (unfold mkK; cases pl <;> simp <;> omega)
section CLS
variable {st wy : Nat} {wg pl : Bool} {B : Nat} {used last shape dirty memory words : Nat → Int32}
theorem pX3_makeRoomFor (hsw : zSW st wy) {a : zA} {l f v b : Nat} (hl : l < 32) (hI : zIA B a) (hR : zRS (mkK st wy wg pl) a used last shape dirty memory words) (hf : f < 8) (hsf : shape l = nI f) :
    ∃ d m u, fX3_makeRoomFor (nI st) (nI wy) (nI (zbn wg)) (nI (zbn pl)) (nI v) (nI b) dirty last memory shape used words (nI l) = some (nI (aMr (mkK st wy wg pl) (l % st) l (zsg f) 32 a v b).2.1, nI (aMr (mkK st wy wg pl) (l % st) l (zsg f) 32 a v b).2.2, d, m, u) ∧ zRS (mkK st wy wg pl) (aMr (mkK st wy wg pl) (l % st) l (zsg f) 32 a v b).1 u last shape d m words ∧ zIA B (aMr (mkK st wy wg pl) (l % st) l (zsg f) 32 a v b).1 := by
  obtain ⟨h1, h2, h3, h4⟩ := id hsw
  have hg := zsg_le f
  have hms : l % st < st := Nat.mod_lt _ h1
  have core := pX3_makeRoom_loop (last := last) (shape := shape) (words := words) (ways := nI wy) (pl := nI (zbn pl)) (B := B) (mkK_ok (wg := wg) (pl := pl) hsw) (vi := 0) (bi := 0) (ss := 0) (wgd := 0) hl hms hg.2 32 zF 0 a used dirty memory v b (by omega) (zF_gt (by omega)) hI hR
  unfold fX3_makeRoomFor
  rw [pX3_setOf h1 h2 hl, Option.bind_some]
  have tail : ∀ t : Nat, t = (mkK st wy wg pl).2.1 → fX3_makeRoomFor_26 (nI st) (nI wy) (nI (zbn wg)) (nI (zbn pl)) last shape words (nI l) (nI (l % st)) (nI t) (nI v) (nI b) dirty memory used = fX3_makeRoomFor_47 (nI st) (nI wy) (nI (zbn wg)) (nI (zbn pl)) last shape words zF (nI l) (nI (l % st)) (nI (mkK st wy wg pl).2.1) (nI ((mkK st wy wg pl).2.2.1 - zsg f)) (nI 0) (nI v) (nI b) dirty memory used := by
    intro t ht
    unfold fX3_makeRoomFor_26 fX3_segmentRoom
    rw [zlet_e, Option.bind_some, zald_n hl (by omega), hsf, zald_n hf (by omega), zlet_e, zsg_v hf, show (4 : Int32) = nI 4 from rfl, pk_mul, pk_sub (by omega), ht]
    rfl
  cases pl with
  | false =>
    rw [if_pos (show nI (zbn false) = (0 : Int32) from rfl), zlet_e, show (2 : Int32) = nI 2 from rfl, pk_mul, tail (2 * wy) rfl]
    exact core
  | true =>
    rw [if_neg (show ¬ nI (zbn true) = (0 : Int32) by decide), tail wy rfl]
    exact core
/-- a line is used once more -/
def aTk (a : zA) (l : Nat) : zA := (nup (aU a) l (aU a l + 1), nup (aT a) l (aC a + 1), aD a, aM a, aW a, aC a + 1)
/-- .. and a word of it is written -/
def wup (f : Nat → Int32) (i : Nat) (v : Int32) : Nat → Int32 := fun j => if j = i then v else f j
def aPut (a : zA) (sp w : Nat) : zA := (aU a, aT a, nup (aD a) (sp / 8) 1, aM a, wup (aW a) sp (nI w), aC a)
/-- a use: the state, victims, written back -/
def aMiss (k : zK) (a : zA) (l v b : Nat) : zA × Nat × Nat := if 0 < aU a l then (a, v, b) else aMr k (l % k.1) l (aS k a l) 32 a v b
def aWr (k : zK) (a : zA) (sp w v b : Nat) : zA × Nat × Nat := aMr k ((sp / 8) % k.1) (sp / 8) (aS k (aPut a sp w) (sp / 8)) 32 (aPut a sp w) v b
def aFin (k : zK) (a : zA) (sp : Nat) (wo : Option Nat) (v b : Nat) : zA × Nat × Nat := match wo with
  | none => (aTk a (sp / 8), v, b)
  | some w => aWr k (aTk a (sp / 8)) sp w v b
def aUse (k : zK) (a : zA) (sp : Nat) (wo : Option Nat) (v b : Nat) : zA × Nat × Nat := aFin k (aMiss k a (sp / 8) v b).1 sp wo (aMiss k a (sp / 8) v b).2.1 (aMiss k a (sp / 8) v b).2.2
theorem aTk_I {a : zA} {l : Nat} (hI : zIA B a) (hC : aC a + 1 ≤ B) (hl : l < 32) (hB : B < 1000000) : zIA B (aTk a l) := by
  obtain ⟨h1, h2, h3, h4, h5⟩ := hI
  refine ⟨fun x hx => ?_, fun x y hx hy ux uy e => ?_, h3, hC, h5⟩
  · obtain ⟨g1, g2, g3, g4, g5⟩ := h1 x hx
    refine ⟨g1, fun hu => g2 ?_, g3, ?_, ?_⟩
    · have e : aU (aTk a l) x = nup (aU a) l (aU a l + 1) x := rfl
      rw [e] at hu
      unfold nup at hu
      split at hu
      · omega
      · exact hu
    · show nup (aU a) l (aU a l + 1) x ≤ aC a + 1
      unfold nup
      have := (h1 l hl).2.2.2.1
      split <;> omega
    · show nup (aT a) l (aC a + 1) x ≤ aC a + 1
      unfold nup
      split <;> omega
  · have ex : nup (aT a) l (aC a + 1) x = nup (aT a) l (aC a + 1) y := e
    have ux' : 0 < nup (aU a) l (aU a l + 1) x := ux
    have uy' : 0 < nup (aU a) l (aU a l + 1) y := uy
    have gx := (h1 x hx).2.2.2.2
    have gy := (h1 y hy).2.2.2.2
    unfold nup at ex ux' uy'
    by_cases cx : x = l
    · by_cases cy : y = l
      · omega
      · rw [if_pos cx, if_neg cy] at ex; omega
    · by_cases cy : y = l
      · rw [if_neg cx, if_pos cy] at ex; omega
      · rw [if_neg cx, if_neg cy] at ex
        rw [if_neg cx] at ux'
        rw [if_neg cy] at uy'
        exact h2 x y hx hy ux' uy' ex
theorem aPut_I {a : zA} {sp w : Nat} (hI : zIA B a) (hs : sp < 256) (hu : 0 < aU a (sp / 8)) (hw : w < 65536) : zIA B (aPut a sp w) := by
  obtain ⟨h1, h2, h3, h4⟩ := hI
  refine ⟨fun x hx => ?_, h2, fun j hj => ⟨(h3 j hj).1, ?_⟩, h4⟩
  · obtain ⟨g1, g2, g3, g4, g5⟩ := h1 x hx
    have e : aD (aPut a sp w) x = nup (aD a) (sp / 8) 1 x := rfl
    rw [e]
    unfold nup
    by_cases c : x = sp / 8
    · rw [if_pos c]
      refine ⟨by omega, fun z => ?_, fun z => by omega, g4, g5⟩
      have z' : aU a x = 0 := z
      rw [c] at z'
      omega
    · rw [if_neg c]
      refine ⟨g1, g2, fun z i hi => ?_, g4, g5⟩
      show wup (aW a) sp (nI w) (x * 8 + i) = aM a (x * 8 + i)
      unfold wup
      rw [if_neg (by omega)]
      exact g3 z i hi
  · show ∃ q, q < 65536 ∧ wup (aW a) sp (nI w) j = nI q
    unfold wup
    split
    · exact ⟨w, hw, rfl⟩
    · exact (h3 j hj).2
end CLS
