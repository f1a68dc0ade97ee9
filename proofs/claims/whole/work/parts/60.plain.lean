/-! ===== the plain cache: the model's rows, the latest ahead ===== -/
theorem vpb {d : Nat} (h : d ≤ 1) : vp_nar .boolean (nI d) = nI d := by
  rcases (show d = 0 ∨ d = 1 by omega) with rfl | rfl <;> rfl
section PLAIN
variable {st wy : Nat} {B : Nat} {a : zA}
def zPQ (st wy s : Nat) (a : zA) (line dirty : Nat → Int32) (Q : List Nat) : Prop :=
  Q.Pairwise (fun p q => aT a q < aT a p) ∧ (∀ l, l ∈ Q ↔ l < 32 ∧ l % st = s ∧ 0 < aU a l) ∧ Q.length ≤ wy ∧ (∀ i l, Q[i]? = some l → line (4 * s + i) = nI l ∧ dirty (4 * s + i) = nI (aD a l)) ∧ ∀ i, Q.length ≤ i → i < wy → line (4 * s + i) = -1
def zPR (st wy : Nat) (a : zA) (line dirty : Nat → Int32) : Prop := ∀ s, s < st → ∃ Q, zPQ st wy s a line dirty Q
theorem zPQ_other {s : Nat} {a3 : zA} {line dirty li di : Nat → Int32} {Q : List Nat} (hw : wy ≤ 4) (h : zPQ st wy s a line dirty Q) (h1 : ∀ x, x % st = s → aU a3 x = aU a x ∧ aT a3 x = aT a x ∧ aD a3 x = aD a x) (h2 : ∀ i, i < 4 → li (4 * s + i) = line (4 * s + i) ∧ di (4 * s + i) = dirty (4 * s + i)) : zPQ st wy s a3 li di Q := by
  obtain ⟨q1, q2, q3, q4, q5⟩ := h
  refine ⟨?_, fun l => ?_, q3, fun i l hl => ?_, fun i hi hi2 => by rw [(h2 i (by omega)).1]; exact q5 i hi hi2⟩
  · refine q1.imp_of_mem (fun {p q} hp hq hlt => ?_)
    rw [(h1 p ((q2 p).mp hp).2.1).2.1, (h1 q ((q2 q).mp hq).2.1).2.1]
    exact hlt
  · rw [q2 l]
    constructor
    · intro ⟨c1, c2, c3⟩; exact ⟨c1, c2, by rw [(h1 l c2).1]; exact c3⟩
    · intro ⟨c1, c2, c3⟩; exact ⟨c1, c2, by rw [(h1 l c2).1] at c3; exact c3⟩
  · have hi : i < Q.length := (List.getElem?_eq_some_iff.mp hl).1
    have hm : l ∈ Q := List.mem_of_getElem? hl
    rw [(h2 i (by omega)).1, (h2 i (by omega)).2, (h1 l ((q2 l).mp hm).2.1).2.2]
    exact q4 i l hl
theorem pX7_shift {c1 c2 b6 ph pb : Int32} {l fr : Nat} {w h : Bool} : ∀ (n N : Nat) (line dirty : Nat → Int32), n ≤ 3 → n < N → fr + 3 < 16 →
    ∃ di li, fX7_plainUse_105 c1 c2 N (nI l) (nI (zbn w)) (nI fr) (nI (zbn h)) b6 (nI n) ph pb dirty line = some (ph, pb, di, li) ∧ li fr = nI l ∧ (∀ k, k < n → li (fr + 1 + k) = line (fr + k)) ∧ (∀ j, j < fr ∨ fr + n < j → li j = line j) ∧ di fr = nI (zbn (w || (h && !decide (b6 = 0)))) ∧ (∀ k, k < n → di (fr + 1 + k) = vp_nar .boolean (dirty (fr + k))) ∧ ∀ j, j < fr ∨ fr + n < j → di j = dirty j := by
  intro n
  induction n with
  | zero =>
    intro N line dirty hn hN hf
    obtain ⟨N, rfl⟩ : ∃ k, N = k + 1 := ⟨N - 1, by omega⟩
    rw [fX7_plainUse_105, if_pos (show nI 0 ≤ (0 : Int32) from Int32.le_refl _), zast_n (by omega) (by omega)]
    have fin : ∀ (d : Int32), d = nI (zbn (w || (h && !decide (b6 = 0)))) → ∃ di li, (zast dirty 16 (nI fr) (vp_nar .boolean d) fun x3 => some (ph, pb, x3, upd line fr (nI l))) = some (ph, pb, di, li) ∧ li fr = nI l ∧ (∀ k, k < 0 → li (fr + 1 + k) = line (fr + k)) ∧ (∀ j, j < fr ∨ fr + 0 < j → li j = line j) ∧ di fr = nI (zbn (w || (h && !decide (b6 = 0)))) ∧ (∀ k, k < 0 → di (fr + 1 + k) = vp_nar .boolean (dirty (fr + k))) ∧ ∀ j, j < fr ∨ fr + 0 < j → di j = dirty j := by
      intro d hd
      rw [zast_n (by omega) (by omega)]
      refine ⟨_, _, rfl, pk_us, fun k hk => by omega, fun j hj => pk_un (by omega), ?_, fun k hk => by omega, fun j hj => pk_un (by omega)⟩
      rw [pk_us, hd]
      exact vpb (by cases (w || (h && !decide (b6 = 0))) <;> decide)
    cases w with
    | true =>
      rw [if_neg (show ¬ nI (zbn true) = 0 by decide)]
      exact fin 1 rfl
    | false =>
      rw [if_pos (show nI (zbn false) = 0 from rfl)]
      cases h with
      | false =>
        rw [if_pos (show nI (zbn false) = 0 from rfl)]
        exact fin 0 rfl
      | true =>
        rw [if_neg (show ¬ nI (zbn true) = 0 by decide)]
        by_cases c : b6 = 0
        · rw [if_pos c]
          exact fin 0 (by rw [decide_eq_true c]; rfl)
        · rw [if_neg c]
          exact fin 1 (by rw [decide_eq_false c]; rfl)
  | succ n ih =>
    intro N line dirty hn hN hf
    obtain ⟨N, rfl⟩ : ∃ k, N = k + 1 := ⟨N - 1, by omega⟩
    rw [fX7_plainUse_105, if_neg (show ¬ nI (n + 1) ≤ (0 : Int32) from nI_nle (by omega) (by omega))]
    simp only [zlet_e]
    rw [nI_add, show nI (fr + (n + 1)) - 1 = nI (fr + n) from nI_pred (fr + n), zald_n (by omega) (by omega), zast_n (by omega) (by omega), zald_n (by omega) (by omega), zast_n (by omega) (by omega), show nI (n + 1) + (-1) = nI n from pk_m1 n]
    obtain ⟨di, li, f1, f2, f3, f4, f5, f6, f7⟩ := ih N (upd line (fr + (n + 1)) (line (fr + n))) (upd dirty (fr + (n + 1)) (vp_nar .boolean (dirty (fr + n)))) (by omega) (by omega) hf
    refine ⟨di, li, f1, f2, fun k hk => ?_, fun j hj => ?_, f5, fun k hk => ?_, fun j hj => ?_⟩
    · by_cases c : k < n
      · rw [f3 k c, pk_un (by omega)]
      · have : k = n := by omega
        rw [this, f4 _ (by omega), show fr + 1 + n = fr + (n + 1) by omega, pk_us]
    · rw [f4 j (by omega), pk_un (by omega)]
    · by_cases c : k < n
      · rw [f6 k c, pk_un (by omega)]
      · have : k = n := by omega
        rw [this, f7 _ (by omega), show fr + 1 + n = fr + (n + 1) by omega, pk_us]
    · rw [f7 j (by omega), pk_un (by omega)]
theorem pX7_plainAt_hit (hsw : zSW st wy) {line : Nat → Int32} {l j : Nat} (hl : l < 32) (hj : j < wy) (h : line (4 * (l % st) + j) = nI l) : ∀ (n N k : Nat), k + n = j → n < N → (∀ i, i < j → ¬ line (4 * (l % st) + i) = nI l) → fX7_plainAt_2 (nI st) (nI wy) line N (nI l) (nI k) = some (nI j) := by
  have hs : l % st < st := Nat.mod_lt _ hsw.1
  have h4 := hsw.2
  intro n
  induction n with
  | zero =>
    intro N k e hN hi
    obtain ⟨N, rfl⟩ : ∃ k, N = k + 1 := ⟨N - 1, by omega⟩
    have : k = j := by omega
    rw [fX7_plainAt_2, if_neg (nI_ge (by omega) (by omega)), pX7_setOf hsw.1 hsw.2.1 hl, Option.bind_some, zlet_e, zlet_e, show (4 : Int32) = nI 4 from rfl, pk_mul, nI_add, zald_n (by omega) (by omega), this, if_pos h]
  | succ n ih =>
    intro N k e hN hi
    obtain ⟨N, rfl⟩ : ∃ k, N = k + 1 := ⟨N - 1, by omega⟩
    rw [fX7_plainAt_2, if_neg (nI_ge (by omega) (by omega)), pX7_setOf hsw.1 hsw.2.1 hl, Option.bind_some, zlet_e, zlet_e, show (4 : Int32) = nI 4 from rfl, pk_mul, nI_add, zald_n (by omega) (by omega), if_neg (hi k (by omega)), zlet_e, show nI k + 1 = nI (k + 1) from nI_1 _]
    exact ih N (k + 1) (by omega) (by omega) hi
theorem pX7_plainAt_miss (hsw : zSW st wy) {line : Nat → Int32} {l : Nat} (hl : l < 32) (hi : ∀ i, i < wy → ¬ line (4 * (l % st) + i) = nI l) : ∀ (n N k : Nat), k + n = wy → n < N → fX7_plainAt_2 (nI st) (nI wy) line N (nI l) (nI k) = some (nI wy) := by
  have hs : l % st < st := Nat.mod_lt _ hsw.1
  have h4 := hsw.2
  intro n
  induction n with
  | zero =>
    intro N k e hN
    obtain ⟨N, rfl⟩ : ∃ k, N = k + 1 := ⟨N - 1, by omega⟩
    have : k = wy := by omega
    rw [fX7_plainAt_2, if_pos (nI_le (by omega) (by omega)), this]
  | succ n ih =>
    intro N k e hN
    obtain ⟨N, rfl⟩ : ∃ k, N = k + 1 := ⟨N - 1, by omega⟩
    rw [fX7_plainAt_2, if_neg (nI_ge (by omega) (by omega)), pX7_setOf hsw.1 hsw.2.1 hl, Option.bind_some, zlet_e, zlet_e, show (4 : Int32) = nI 4 from rfl, pk_mul, nI_add, zald_n (by omega) (by omega), if_neg (hi k (by omega)), zlet_e, show nI k + 1 = nI (k + 1) from nI_1 _]
    exact ih N (k + 1) (by omega) (by omega)
/-- plain lines take four segments -/
theorem aS_pl (a : zA) (l : Nat) : aS (mkK st wy false true) a l = 4 := rfl
theorem aMr_pl_room {s l n v b : Nat} (h : aTags (mkK st wy false true) a s l < wy) : aMr (mkK st wy false true) s l 4 n a v b = (a, v, b) := by
  cases n with
  | zero => rfl
  | succ n =>
    have := aTak_le (a := a) (k := mkK st wy false true) (s := s) (bn := l)
    unfold aMr
    rw [if_pos]
    exact ⟨h, by show aTak _ _ _ _ + 4 ≤ 4 * wy; omega⟩
theorem aMr_pl_full {s l n v b q : Nat} (h : ¬ aTags (mkK st wy false true) a s l < wy) (hq : aVic (mkK st wy false true) a s l = some q) (h2 : aTags (mkK st wy false true) (aFg a q) s l < wy) : aMr (mkK st wy false true) s l 4 (n + 1) a v b = (aFg a q, v + 1, b + aD a q) := by
  unfold aMr
  rw [if_neg (fun z => h z.1), hq]
  exact aMr_pl_room h2
/-- what is cached in the row of a set, as many as tags -/
theorem zPQ_len (hsw : zSW st wy) {s : Nat} {line dirty : Nat → Int32} {Q : List Nat} (hs : s < st) (h : zPQ st wy s a line dirty Q) : Q.Perm (aCs (mkK st wy false true) a s 99) ∧ Q.length = aTags (mkK st wy false true) a s 99 := by
  obtain ⟨q1, q2, q3, q4, q5⟩ := h
  have nd : Q.Nodup := q1.imp (fun h e => by rw [e] at h; exact Nat.lt_irrefl _ h)
  have nd2 : (aCs (mkK st wy false true) a s 99).Nodup := (zlin_nodup hsw.1).filter _
  have hp : Q.Perm (aCs (mkK st wy false true) a s 99) := (List.perm_ext_iff_of_nodup nd nd2).mpr (fun x => by
    rw [q2 x]
    unfold aCs
    rw [List.mem_filter]
    unfold aCd
    constructor
    · intro ⟨c1, c2, c3⟩
      refine ⟨?_, ?_⟩
      · have := zin_set (st := st) hsw.1 c1
        rw [c2] at this
        exact this
      · have : ¬ x = 99 := by omega
        simp [c3, this]
    · intro ⟨c1, c2⟩
      have := (zlin_lt c1).1
      simp at c2
      exact ⟨this, zset_in (st := st) hs c1, c2.1⟩)
  exact ⟨hp, hp.length_eq⟩
end PLAIN
