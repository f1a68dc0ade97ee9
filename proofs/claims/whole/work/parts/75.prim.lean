/-! ===== the parse: wholes within bounds, names wanted, both sides; the model past a fault ===== -/
section PRIM
variable {tp tq : Nat → Int32} {n : Nat} {C : Nat → Nat}
/-- the model's number and letters at a token -/
def zMs (k v : Nat) (nu : Int32) (le : Int64) : Prop := (k = 2 → nu = nI v) ∧ (k = 1 → le = lN v)
theorem g5 {nn sp pl nu : Int32} {le : Int64} : fX7_goesOn nn sp 5 pl nu le tq = some (sp, 5, pl, nu, le) := by
  unfold fX7_goesOn
  rw [if_pos rfl]
theorem fl5 {pl f w x : Int32} : fX7_flaw 5 pl f w x = some (5, f, w) := by
  unfold fX7_flaw
  rw [if_pos rfl]
theorem fln {k : Nat} {pl f w x : Int32} : fX7_flaw (zks k) pl f w x = some (5, x, pl) := by
  unfold fX7_flaw
  rw [if_neg (zks_ne5 k)]
theorem wa5 {pl nu f w lo hi : Int32} : fX7_wholeAt 5 pl nu f w lo hi = some (lo, 5, f, w) := by
  unfold fX7_wholeAt fX7_wholeAt_33
  rw [if_neg (by decide), fl5, Option.bind_some, if_pos rfl]
theorem rw5 {nn sp pl nu f w lo hi : Int32} {le : Int64} : fX7_readWhole nn sp 5 pl nu f w le tq lo hi = some (lo, sp, 5, pl, nu, f, w, le) := by
  unfold fX7_readWhole
  rw [wa5, Option.bind_some]
  rw [g5, Option.bind_some]
theorem iw5 {j : Nat} {le : Int64} : fX7_isWord j 5 le = some 0 := by
  unfold fX7_isWord
  rw [if_neg (by decide)]
theorem rpt5 {j : Nat} {nn sp pl nu f w lo hi : Int32} {le : Int64} : fX7_readPart j nn sp 5 pl nu f w le tq lo hi = some (lo, sp, 5, pl, nu, f, w, le) := by
  unfold fX7_readPart fX7_needs fX7_needs_13
  rw [iw5, Option.bind_some, if_pos rfl, fl5, Option.bind_some]
  rw [g5, Option.bind_some, Option.bind_some]
  rw [rw5, Option.bind_some]
/-- on to the next token -/
theorem gon (h : zTx tp tq n C) {e k : Nat} (he : e ≤ n) {pl nu : Int32} {le : Int64} : ∃ s' e' k' v', zTk tp tq n e s' e' k' v' ∧ ∃ nu' le', fX7_goesOn (nI n) (nI e) (zks k) pl nu le tq = some (nI e', zks k', nI s', nu', le') ∧ zMs k' v' nu' le' := by
  obtain ⟨s', e', k', v', T⟩ := tok h he
  obtain ⟨nu', le', f1, f2, f3⟩ := T.2.1 (zks k) pl nu le (zks_ne5 k)
  exact ⟨s', e', k', v', T, nu', le', f1, f2, f3⟩
theorem zks3 {k : Nat} (hk : k ≤ 4) : zks k = 3 ↔ k = 2 := by
  rcases (show k = 0 ∨ k = 1 ∨ k = 2 ∨ k = 3 ∨ k = 4 by omega) with rfl | rfl | rfl | rfl | rfl <;> decide
theorem zks2 {k : Nat} (hk : k ≤ 4) : zks k = 2 ↔ k = 1 := by
  rcases (show k = 0 ∨ k = 1 ∨ k = 2 ∨ k = 3 ∨ k = 4 by omega) with rfl | rfl | rfl | rfl | rfl <;> decide
theorem zks4 {k : Nat} (hk : k ≤ 4) : zks k = 4 ↔ k = 3 := by
  rcases (show k = 0 ∨ k = 1 ∨ k = 2 ∨ k = 3 ∨ k = 4 by omega) with rfl | rfl | rfl | rfl | rfl <;> decide
theorem zks1 {k : Nat} (hk : k ≤ 4) : zks k = 1 ↔ k = 0 := by
  rcases (show k = 0 ∨ k = 1 ∨ k = 2 ∨ k = 3 ∨ k = 4 by omega) with rfl | rfl | rfl | rfl | rfl <;> decide
theorem nk {k c : Nat} (hk : k ≤ 4) (hc : c ≤ 4) : nI k = nI c ↔ k = c := nI_eq (by omega) (by omega)
/-- a whole, class -/
theorem cwh {p s e k v : Nat} (T : zTk tp tq n p s e k v) {kd sr va ff fp : Int32} : ∃ va', (k = 2 → va' = nI v) ∧ fX4_takeWhole (nI n) (nI p) kd sr va ff fp tp = if k = 2 then some (1, nI e, nI k, nI s, va', ff, fp) else some (0, nI e, nI k, nI s, va', 1, nI s) := by
  obtain ⟨va', f1, f2⟩ := T.1 kd sr va
  refine ⟨va', f2, ?_⟩
  unfold fX4_takeWhole
  rw [f1, Option.bind_some]
  have hk := T.2.2.2.2.2.2.2.1
  by_cases c : k = 2
  · rw [if_pos c, if_pos (show nI k = 2 by rw [c]; rfl)]
  · rw [if_neg c, if_neg (show ¬ nI k = 2 from fun z => c ((nk (c := 2) hk (by omega)).mp z))]
    unfold fX4_fail
    rw [Option.bind_some, if_pos rfl]
/-- within bounds or not, both sides -/
theorem twn {p s e k v lo hi : Nat} (T : zTk tp tq n p s e k v) (hlo : lo ≤ 65535) (hhi : hi ≤ 65535) :
    ((k = 2 ∧ lo ≤ v ∧ v ≤ hi) ∧ (∀ kd sr va ff fp, fX4_takeWithin (nI n) (nI p) kd sr va ff fp tp (nI lo) (nI hi) = some (1, nI e, nI k, nI s, nI v, ff, fp)) ∧ ∀ nu le f w, zMs k v nu le → fX7_wholeAt (zks k) (nI s) nu f w (nI lo) (nI hi) = some (nI v, zks k, f, w)) ∨
    ∃ fl : Int32, 0 < fl ∧ (∀ kd sr va ff fp, ∃ va', fX4_takeWithin (nI n) (nI p) kd sr va ff fp tp (nI lo) (nI hi) = some (0, nI e, nI k, nI s, va', fl, nI s)) ∧ ∀ nu le f w, zMs k v nu le → fX7_wholeAt (zks k) (nI s) nu f w (nI lo) (nI hi) = some (nI lo, 5, fl, nI s) := by
  have hk := T.2.2.2.2.2.2.2.1
  have hv := T.2.2.1
  by_cases c : k = 2
  · have hv := hv c
    have w23 : ∀ (sr va ff fp : Int32), fX4_takeWithin_23 (nI n) tp (nI e) (nI k) sr va ff fp = some (0, nI e, nI k, sr, va, 4, sr) := fun sr va ff fp => by
      unfold fX4_takeWithin_23 fX4_fail
      rw [Option.bind_some, if_pos rfl]
    by_cases c2 : lo ≤ v ∧ v ≤ hi
    · refine Or.inl ⟨⟨c, c2.1, c2.2⟩, fun kd sr va ff fp => ?_, fun nu le f w hm => ?_⟩
      · obtain ⟨va', f1, f2⟩ := cwh T (kd := kd) (sr := sr) (va := va) (ff := ff) (fp := fp)
        unfold fX4_takeWithin
        rw [f2, if_pos c, Option.bind_some, f1 c, if_neg (show ¬ (1 : Int32) = 0 by decide), if_neg (nI_nlt c2.1 (by omega)), if_pos (nI_le c2.2 (by omega))]
      · unfold fX7_wholeAt fX7_in fX7_wholeAt_33
        rw [if_pos ((zks3 hk).mpr c), hm.1 c, if_neg (nI_nlt c2.1 (by omega)), if_neg (nI_nlt c2.2 (by omega)), Option.bind_some, if_neg (show ¬ (1 : Int32) = 0 by decide), if_neg (zks_ne5 k)]
    · refine Or.inr ⟨4, by decide, fun kd sr va ff fp => ?_, fun nu le f w hm => ?_⟩
      · obtain ⟨va', f1, f2⟩ := cwh T (kd := kd) (sr := sr) (va := va) (ff := ff) (fp := fp)
        unfold fX4_takeWithin
        rw [f2, if_pos c, Option.bind_some, f1 c, if_neg (show ¬ (1 : Int32) = 0 by decide)]
        by_cases c3 : v < lo
        · rw [if_pos (nI_lt c3 (by omega))]; exact ⟨_, w23 _ _ _ _⟩
        · rw [if_neg (nI_nlt (by omega) (by omega)), if_neg (nI_ge (by omega) (by omega))]; exact ⟨_, w23 _ _ _ _⟩
      · unfold fX7_wholeAt fX7_in fX7_wholeAt_33
        rw [if_pos ((zks3 hk).mpr c), hm.1 c]
        by_cases c3 : v < lo
        · rw [if_pos (nI_lt c3 (by omega)), Option.bind_some, if_pos rfl, fln, Option.bind_some, if_pos rfl]
        · rw [if_neg (nI_nlt (by omega) (by omega)), if_pos (nI_lt (by omega) (by omega)), Option.bind_some, if_pos rfl, fln, Option.bind_some, if_pos rfl]
  · refine Or.inr ⟨1, by decide, fun kd sr va ff fp => ?_, fun nu le f w hm => ?_⟩
    · obtain ⟨va', f1, f2⟩ := cwh T (kd := kd) (sr := sr) (va := va) (ff := ff) (fp := fp)
      unfold fX4_takeWithin
      rw [f2, if_neg c, Option.bind_some, if_pos rfl]
      exact ⟨_, rfl⟩
    · unfold fX7_wholeAt fX7_wholeAt_33
      rw [if_neg (fun z => c ((zks3 hk).mp z)), fln, Option.bind_some, if_pos rfl]
/-- the same with the step behind it -/
theorem twr (h : zTx tp tq n C) {p s e k v lo hi : Nat} (T : zTk tp tq n p s e k v) (hlo : lo ≤ 65535) (hhi : hi ≤ 65535) :
    ((k = 2 ∧ lo ≤ v ∧ v ≤ hi) ∧ (∀ kd sr va ff fp, fX4_takeWithin (nI n) (nI p) kd sr va ff fp tp (nI lo) (nI hi) = some (1, nI e, nI k, nI s, nI v, ff, fp)) ∧ ∀ nu le f w, zMs k v nu le → ∃ s' e' k' v', zTk tp tq n e s' e' k' v' ∧ ∃ nu' le', fX7_readWhole (nI n) (nI e) (zks k) (nI s) nu f w le tq (nI lo) (nI hi) = some (nI v, nI e', zks k', nI s', nu', f, w, le') ∧ zMs k' v' nu' le') ∨
    ∃ fl : Int32, 0 < fl ∧ (∀ kd sr va ff fp, ∃ va', fX4_takeWithin (nI n) (nI p) kd sr va ff fp tp (nI lo) (nI hi) = some (0, nI e, nI k, nI s, va', fl, nI s)) ∧ ∀ nu le f w, zMs k v nu le → fX7_readWhole (nI n) (nI e) (zks k) (nI s) nu f w le tq (nI lo) (nI hi) = some (nI lo, nI e, 5, nI s, nu, fl, nI s, le) := by
  have he := T.2.2.2.2.2.2.1
  rcases twn T hlo hhi with ⟨a1, a2, a3⟩ | ⟨fl, a0, a2, a3⟩
  · refine Or.inl ⟨a1, a2, fun nu le f w hm => ?_⟩
    obtain ⟨s', e', k', v', T', nu', le', g1, g2⟩ := gon h (k := k) he (pl := nI s) (nu := nu) (le := le)
    refine ⟨s', e', k', v', T', nu', le', ?_, g2⟩
    unfold fX7_readWhole
    rw [a3 nu le f w hm, Option.bind_some]
    rw [g1, Option.bind_some]
  · refine Or.inr ⟨fl, a0, a2, fun nu le f w hm => ?_⟩
    unfold fX7_readWhole
    rw [a3 nu le f w hm, Option.bind_some]
    rw [g5, Option.bind_some]
/-- names, both sides: j the class's, j2 the model's number of it -/
theorem nam {p s e k v j j2 : Nat} (T : zTk tp tq n p s e k v) (hj : j < 12) (hj2 : j2 < 25) (h12 : j2 ≠ 12) (hz : zsc j = zsc j2) : fX4_isName j (nI e) (nI k) (nI s) tp = some (zbi (decide (k = 1 ∧ v = zpk j))) ∧ ∀ nu le, zMs k v nu le → fX7_isWord j2 (zks k) le = some (zbi (decide (k = 1 ∧ v = zpk j))) := by
  have hk := T.2.2.2.2.2.2.2.1
  have hpk : zpk j2 = zpk j := by unfold zpk; rw [hz]
  constructor
  · by_cases c : k = 1
    · rw [c, (T.2.2.2.1 c).2 j hj]
      congr 2
      exact decide_eq_decide.mpr ⟨fun z => ⟨rfl, z⟩, fun z => z.2⟩
    · unfold fX4_isName
      rw [if_neg (show ¬ nI k = 1 from fun z => c ((nk (c := 1) hk (by omega)).mp z)), decide_eq_false (fun z => c z.1)]
      rfl
  · intro nu le hm
    by_cases c : k = 1
    · rw [pX7_isWord hj2 h12 (T.2.2.2.1 c).1 (fun _ => hm.2 c), hpk]
      congr 2
      exact decide_eq_decide.mpr ⟨fun z => ⟨c, z.2⟩, fun z => ⟨(zks2 hk).mpr c, z.2⟩⟩
    · unfold fX7_isWord
      rw [if_neg (fun z => c ((zks2 hk).mp z)), decide_eq_false (fun z => c z.1)]
      rfl
end PRIM
