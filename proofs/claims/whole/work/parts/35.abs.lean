/-! ===== the abstract cache: what both sides do ===== -/
/-- used, last, dirty, memory, words, clock -/
abbrev zA : Type := (Nat → Nat) × (Nat → Nat) × (Nat → Nat) × (Nat → Int32) × (Nat → Int32) × Nat
abbrev aU (a : zA) : Nat → Nat := a.1
abbrev aT (a : zA) : Nat → Nat := a.2.1
abbrev aD (a : zA) : Nat → Nat := a.2.2.1
abbrev aM (a : zA) : Nat → Int32 := a.2.2.2.1
abbrev aW (a : zA) : Nat → Int32 := a.2.2.2.2.1
abbrev aC (a : zA) : Nat := a.2.2.2.2.2
/-- sets, tags, segments, weighed, plain -/
abbrev zK : Type := Nat × Nat × Nat × Bool × Bool
def aLw (a : zA) (l : Nat) : Nat → Int32 := fun i => aW a (l * 8 + i)
def kF (k : zK) (w : Nat → Int32) : Nat := if k.2.2.2.2 then 7 else zform w
def aS (k : zK) (a : zA) (l : Nat) : Nat := zsg (kF k (aLw a l))
theorem kF_lt (k : zK) (w : Nat → Int32) : kF k w < 8 := by unfold kF; split; decide; exact zform_lt w
/-- l goes ahead of m -/
def aAh (k : zK) (a : zA) (l m : Nat) : Bool := if k.2.2.2.1 then (if aU a l * aS k a m = aU a m * aS k a l then decide (aT a l < aT a m) else decide (aU a l * aS k a m < aU a m * aS k a l)) else decide (aT a l < aT a m)
def aCd (a : zA) (but x : Nat) : Bool := decide (0 < aU a x) && !decide (x = but)
def aCs (k : zK) (a : zA) (s but : Nat) : List Nat := (zlin k.1 32 s).filter (aCd a but)
/-- the one that goes ahead of all -/
def zvf (ah : Nat → Nat → Bool) : Option Nat → List Nat → Option Nat
  | b, [] => b
  | none, l :: ls => zvf ah (some l) ls
  | some b, l :: ls => zvf ah (some (if ah l b then l else b)) ls
def aVic (k : zK) (a : zA) (s but : Nat) : Option Nat := zvf (aAh k a) none (aCs k a s but)
def zov (d : Int32) : Option Nat → Int32
  | none => d
  | some b => nI b
def nup (f : Nat → Nat) (i v : Nat) : Nat → Nat := fun j => if j = i then v else f j
/-- a line is written back if it is dirty -/
def aWb (a : zA) (l : Nat) : zA := if aD a l = 1 then (aU a, aT a, nup (aD a) l 0, (fun j => if l * 8 ≤ j ∧ j < l * 8 + 8 then aW a j else aM a j), aW a, aC a) else a
def aFg (a : zA) (l : Nat) : zA := (nup (aU a) l 0, aT (aWb a l), aD (aWb a l), aM (aWb a l), aW (aWb a l), aC (aWb a l))
def aTags (k : zK) (a : zA) (s but : Nat) : Nat := (aCs k a s but).length
def aTak (k : zK) (a : zA) (s but : Nat) : Nat := ((aCs k a s but).map (aS k a)).sum
/-- room for l, that takes need segments: the state, victims, written back -/
def aMr (k : zK) (s l need : Nat) : Nat → zA → Nat → Nat → zA × Nat × Nat
  | 0, a, v, b => (a, v, b)
  | n + 1, a, v, b => if aTags k a s l < k.2.1 ∧ aTak k a s l + need ≤ k.2.2.1 then (a, v, b) else match aVic k a s l with
    | none => (a, v, b)
    | some q => aMr k s l need n (aFg a q) (v + 1) (b + aD a q)
/-- how the class holds it -/
def zRS (k : zK) (a : zA) (used last shape dirty memory words : Nat → Int32) : Prop :=
  (∀ l, l < 32 → used l = nI (aU a l) ∧ dirty l = nI (aD a l) ∧ (0 < aU a l → last l = nI (aT a l) ∧ shape l = nI (kF k (aLw a l)))) ∧ ∀ j, j < 256 → memory j = aM a j ∧ words j = aW a j
/-- how the model holds it -/
def zRX (a : zA) (x : Nat → Int32) : Prop :=
  (∀ l, l < 32 → x (512 + l) = nI (aU a l) ∧ x (576 + l) = nI (aD a l) ∧ (0 < aU a l → x (544 + l) = nI (aT a l) ∧ ∀ i, i < 8 → x (256 + 8 * l + i) = aW a (l * 8 + i))) ∧ (∀ j, j < 256 → x j = aM a j) ∧ x 608 = nI (aC a)
/-- what always holds -/
def zIA (B : Nat) (a : zA) : Prop :=
  (∀ l, l < 32 → aD a l ≤ 1 ∧ (aU a l = 0 → aD a l = 0) ∧ (aD a l = 0 → ∀ i, i < 8 → aW a (l * 8 + i) = aM a (l * 8 + i)) ∧ aU a l ≤ aC a ∧ aT a l ≤ aC a) ∧
  (∀ l m, l < 32 → m < 32 → 0 < aU a l → 0 < aU a m → aT a l = aT a m → l = m) ∧
  (∀ j, j < 256 → (∃ q, q < 65536 ∧ aM a j = nI q) ∧ ∃ q, q < 65536 ∧ aW a j = nI q) ∧ aC a ≤ B ∧ B < 1000000
def zKok (k : zK) : Prop := 0 < k.1 ∧ k.1 ≤ 4 ∧ 1 ≤ k.2.1 ∧ k.2.1 ≤ 8 ∧ 4 ≤ k.2.2.1 ∧ k.2.2.1 ≤ 16
theorem aS_le (k : zK) (a : zA) (l : Nat) : 1 ≤ aS k a l ∧ aS k a l ≤ 4 := zsg_le _
theorem nIp {n : Nat} (h : n < 2 ^ 31) : 0 < nI n ↔ 0 < n := nI_ltI (a := 0) (b := n) (by omega) h
def zbi (b : Bool) : Int32 := if b then 1 else 0
def zbn (b : Bool) : Nat := if b then 1 else 0
theorem pX3_goesAhead {k : zK} {a : zA} {B : Nat} {used last shape dirty memory words : Nat → Int32} (hI : zIA B a) (hR : zRS k a used last shape dirty memory words) {l m : Nat} (hl : l < 32) (hm : m < 32) (ul : 0 < aU a l) (um : 0 < aU a m) : fX3_goesAhead (nI (zbn k.2.2.2.1)) last shape used (nI l) (nI m) = some (zbi (aAh k a l m)) := by
  obtain ⟨u1, -, c1⟩ := hR.1 l hl
  obtain ⟨u2, -, c2⟩ := hR.1 m hm
  obtain ⟨t1, s1⟩ := c1 ul
  obtain ⟨t2, s2⟩ := c2 um
  obtain ⟨-, -, -, b1, b2⟩ := hI.1 l hl
  obtain ⟨-, -, -, b3, b4⟩ := hI.1 m hm
  obtain ⟨-, -, -, b5, b6⟩ := hI
  have key : fX3_goesAhead_62 (nI (zbn k.2.2.2.1)) last shape used (nI l) (nI m) = some (zbi (decide (aT a l < aT a m))) := by
    unfold fX3_goesAhead_62
    rw [zald_n hl (by omega), zald_n hm (by omega), t1, t2]
    by_cases c : aT a l < aT a m
    · rw [if_neg (nI_ge c (by omega)), decide_eq_true c]; rfl
    · rw [if_pos (nI_le (by omega) (by omega)), decide_eq_false c]; rfl
  unfold fX3_goesAhead aAh
  cases hw : k.2.2.2.1 with
  | false =>
    rw [if_pos (show nI (zbn false) = (0 : Int32) from rfl), if_neg (by decide)]
    rw [hw] at key
    exact key
  | true =>
    have f1 := kF_lt k (aLw a l)
    have f2 := kF_lt k (aLw a m)
    have g1 := aS_le k a l
    have g2 := aS_le k a m
    have p1 : aU a l * aS k a m ≤ 1000000 * 4 := Nat.mul_le_mul (by omega) (by omega)
    have p2 : aU a m * aS k a l ≤ 1000000 * 4 := Nat.mul_le_mul (by omega) (by omega)
    rw [if_neg (show ¬ nI (zbn true) = (0 : Int32) by decide), if_pos rfl, zald_n hl (by omega), zald_n hm (by omega), s2, zald_n f2 (by omega), zlet_e, zald_n hm (by omega), zald_n hl (by omega), s1, zald_n f1 (by omega), zlet_e, zsg_v f1, zsg_v f2, u1, u2, pk_mul, pk_mul]
    rw [show zsg (kF k (aLw a m)) = aS k a m from rfl, show zsg (kF k (aLw a l)) = aS k a l from rfl]
    by_cases c : aU a l * aS k a m = aU a m * aS k a l
    · rw [if_pos (by rw [c]), if_pos c]
      rw [hw] at key
      exact key
    · rw [if_neg (fun z => c ((nI_eq (by omega) (by omega)).mp z)), if_neg c]
      by_cases c2 : aU a l * aS k a m < aU a m * aS k a l
      · rw [if_neg (nI_ge c2 (by omega)), decide_eq_true c2]; rfl
      · rw [if_pos (nI_le (by omega) (by omega)), decide_eq_false c2]; rfl
