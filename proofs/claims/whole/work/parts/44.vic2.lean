/-! ===== the model's victim: the choice ===== -/
section VIC2
variable {st wy : Nat} {wg : Bool} {B : Nat} {a : zA} {x : Nat → Int32}
theorem zvf_keep {ah : Nat → Nat → Bool} {b : Nat} : ∀ {L : List Nat}, (∀ r ∈ L, ah r b = false) → zvf ah (some b) L = some b
  | [], _ => rfl
  | l :: L, h => by
    show zvf ah (some (if ah l b then l else b)) L = some b
    rw [h l List.mem_cons_self, if_neg (by decide)]
    exact zvf_keep (fun r hr => h r (List.mem_cons_of_mem _ hr))
theorem pX7_isLighter (hI : zIA B a) (hX : zRX a x) {l m : Nat} (hl : l < 32) (hm : m < 32) : fX7_isLighter x (nI l) (nI m) = some (zbi (decide (aU a l * aS (mkK st wy wg false) a m < aU a m * aS (mkK st wy wg false) a l))) := by
  have b1 := (hI.1 l hl).2.2.2.1
  have b2 := (hI.1 m hm).2.2.2.1
  have b3 := hI.2.2.2
  have g1 := aS_le (mkK st wy wg false) a l
  have g2 := aS_le (mkK st wy wg false) a m
  have p1 : aU a l * aS (mkK st wy wg false) a m ≤ 1000000 * 4 := Nat.mul_le_mul (by omega) (by omega)
  have p2 : aU a m * aS (mkK st wy wg false) a l ≤ 1000000 * 4 := Nat.mul_le_mul (by omega) (by omega)
  unfold fX7_isLighter
  rw [zlet_e, show (512 : Int32) + nI l = nI (512 + l) from nI_add 512 l, zald_n (by omega) (by omega), pX7_segmentsOf hm (zRX_W hI hX hm), Option.bind_some, zlet_e, zlet_e, show (512 : Int32) + nI m = nI (512 + m) from nI_add 512 m, zald_n (by omega) (by omega), pX7_segmentsOf hl (zRX_W hI hX hl), Option.bind_some, zlet_e, (hX.1 l hl).1, (hX.1 m hm).1, pk_mul, pk_mul]
  rw [show zsg (zform (aLw a m)) = aS (mkK st wy wg false) a m from rfl, show zsg (zform (aLw a l)) = aS (mkK st wy wg false) a l from rfl]
  by_cases c : aU a l * aS (mkK st wy wg false) a m < aU a m * aS (mkK st wy wg false) a l
  · rw [if_neg (nI_ge c (by omega)), decide_eq_true c]; rfl
  · rw [if_pos (nI_le (by omega) (by omega)), decide_eq_false c]; rfl
theorem pX7_vic_loop (hI : zIA B a) (hX : zRX a x) {od : Nat → Int32} {but : Int32} {bn : Nat} (hb : zBut but bn) : ∀ (R P : List Nat) (N : Nat) (bo : Option Nat), R.length < N → zOL od (P ++ R) → zSo a (P ++ R) → (P ++ R).length ≤ 32 → (∀ b, bo = some b → b < 32 ∧ 0 < aU a b ∧ wg = true ∧ ∀ r ∈ R, aT a b < aT a r) →
    fX7_victimOf_11 (nI st) (nI (zbn wg)) x N but (zov (-2) bo) (nI P.length) (nI (P ++ R).length) od = some (zov (-2) (zvf (aAh (mkK st wy wg false) a) bo (R.filter (fun q => !decide (q = bn)))), nI (P ++ R).length, od) := by
  intro R
  induction R with
  | nil =>
    intro P N bo hN hod hso hlen hbo
    obtain ⟨N, rfl⟩ : ∃ k, N = k + 1 := ⟨N - 1, by omega⟩
    rw [fX7_victimOf_11, List.append_nil, if_pos (Int32.le_refl _)]
    cases bo <;> rfl
  | cons q R ih =>
    intro P N bo hN hod hso hlen hbo
    obtain ⟨N, rfl⟩ : ∃ k, N = k + 1 := ⟨N - 1, by omega⟩
    have hL : (P ++ q :: R).length = P.length + R.length + 1 := by simp; omega
    have hq := hso.2 q (by simp)
    have hoq : od P.length = nI q := hod _ _ (by simp)
    have eL : P ++ q :: R = (P ++ [q]) ++ R := by simp
    have hN' : R.length < N := by simp at hN; omega
    have hR : ∀ r ∈ R, aT a q < aT a r := fun r hr => (List.pairwise_cons.mp (List.pairwise_append.mp hso.1).2.1).1 r hr
    have step : ∀ bo : Option Nat, (∀ b, bo = some b → b < 32 ∧ 0 < aU a b ∧ wg = true ∧ ∀ r ∈ R, aT a b < aT a r) → fX7_victimOf_11 (nI st) (nI (zbn wg)) x N but (zov (-2) bo) (nI (P.length + 1)) (nI (P ++ q :: R).length) od = some (zov (-2) (zvf (aAh (mkK st wy wg false) a) bo (R.filter (fun q => !decide (q = bn)))), nI (P ++ q :: R).length, od) := by
      intro bo hbo
      have := ih (P ++ [q]) N bo hN' (by rw [← eL]; exact hod) (by rw [← eL]; exact hso) (by rw [← eL]; exact hlen) hbo
      rw [← eL] at this
      rw [← this]
      simp
    rw [fX7_victimOf_11, if_neg (nI_ge (by omega) (by omega)), zald_n (by omega) (by omega), hoq, List.filter_cons]
    by_cases c : q = bn
    · rw [if_pos ((hb q hq.1).mpr c), zlet_e, show nI P.length + 1 = nI (P.length + 1) from nI_1 _, decide_eq_true c, if_neg (by decide)]
      exact step bo (fun b hb => ⟨(hbo b hb).1, (hbo b hb).2.1, (hbo b hb).2.2.1, fun r hr => (hbo b hb).2.2.2 r (List.mem_cons_of_mem _ hr)⟩)
    · rw [if_neg (fun z => c ((hb q hq.1).mp z)), decide_eq_false c, if_pos (show (!false) = true from rfl)]
      have s60 : ∀ b, b < 32 → 0 < aU a b → wg = true → (b = q ∨ aT a b < aT a q) → fX7_victimOf_60 (nI st) (nI (zbn wg)) x (fX7_victimOf_11 (nI st) (nI (zbn wg)) x N) but (nI b) (nI P.length) (nI (P ++ q :: R).length) od = some (zov (-2) (zvf (aAh (mkK st wy wg false) a) (some (if aAh (mkK st wy wg false) a q b then q else b)) (R.filter (fun q => !decide (q = bn)))), nI (P ++ q :: R).length, od) := by
        intro b b1 b2 b3 b4
        unfold fX7_victimOf_60
        rw [zald_n (by omega) (by omega), hoq, pX7_isLighter (st := st) (wy := wy) (wg := wg) hI hX hq.1 b1, Option.bind_some]
        have hT : aT a b ≤ aT a q := by
          rcases b4 with e | e
          · rw [e]; exact Nat.le_refl _
          · omega
        have ha : aAh (mkK st wy wg false) a q b = decide (aU a q * aS (mkK st wy wg false) a b < aU a b * aS (mkK st wy wg false) a q) := by
          unfold aAh
          rw [show (mkK st wy wg false).2.2.2.1 = wg from rfl, b3, if_pos rfl]
          split
          · exact decide_eq_decide.mpr (by omega)
          · rfl
        rw [ha]
        by_cases d : aU a q * aS (mkK st wy wg false) a b < aU a b * aS (mkK st wy wg false) a q
        · rw [decide_eq_true d, if_neg (by decide), if_pos rfl, zald_n (by omega) (by omega), hoq, zlet_e, show nI P.length + 1 = nI (P.length + 1) from nI_1 _]
          exact step (some q) (fun _ hb => by cases hb; exact ⟨hq.1, hq.2, b3, hR⟩)
        · rw [decide_eq_false d, if_pos (by decide), if_neg (by decide), zlet_e, show nI P.length + 1 = nI (P.length + 1) from nI_1 _]
          exact step (some b) (fun _ hb => by cases hb; exact ⟨b1, b2, b3, fun r hr => by have := hR r hr; omega⟩)
      cases bo with
      | none =>
        rw [if_pos (show zov (-2) none = (-2 : Int32) from rfl), zald_n (by omega) (by omega), hoq]
        show _ = some (zov (-2) (zvf (aAh (mkK st wy wg false) a) (some q) _), _)
        cases hwg : wg with
        | false =>
          rw [if_pos (show nI (zbn false) = (0 : Int32) from rfl), zvf_keep]
          · rfl
          · intro r hr
            have := hR r (List.mem_filter.mp hr).1
            unfold aAh
            rw [show (mkK st wy false false).2.2.2.1 = false from rfl, if_neg (by decide)]
            exact decide_eq_false (by omega)
        | true =>
          rw [hwg] at s60
          rw [if_neg (show ¬ nI (zbn true) = (0 : Int32) by decide), s60 q hq.1 hq.2 rfl (Or.inl rfl)]
          congr 4
          split <;> rfl
      | some b =>
        obtain ⟨b1, b2, b3, b4⟩ := hbo b rfl
        rw [if_neg (show ¬ zov (-2) (some b) = (-2 : Int32) from fun z => absurd ((zBut_2 b b1).mp z) (by omega))]
        exact s60 b b1 b2 b3 (Or.inr (b4 q List.mem_cons_self))
theorem pX7_victimOf (hI : zIA B a) (hsw : zSW st wy) (hX : zRX a x) {s : Nat} {o but : Int32} {bn : Nat} {od : Nat → Int32} (hb : zBut but bn) (hs : s < st) :
    ∃ o2 od2, fX7_victimOf o (nI st) (nI (zbn wg)) od x (nI s) but = some (zov (-2) (aVic (mkK st wy wg false) a s bn), o2, od2) := by
  obtain ⟨od2, L2, f1, f2, f3, f4, f5⟩ := pX7_orders (wg := wg) (o := o) (od := od) hI hsw hX hs
  unfold fX7_victimOf
  rw [f1, Option.bind_some]
  have := pX7_vic_loop (st := st) (wy := wy) (wg := wg) hI hX hb L2 [] zF none (zF_gt (by omega)) f2 f3 f5 (fun _ h => by cases h)
  refine ⟨nI L2.length, od2, this.trans ?_⟩
  rw [zvf_perm (k := mkK st wy wg false) hI (L2 := aCs (mkK st wy wg false) a s bn)]
  · rfl
  · intro q
    rw [List.mem_filter, f4.mem_iff]
    unfold aCs
    rw [List.mem_filter, List.mem_filter]
    unfold aCd
    constructor
    · intro ⟨⟨h1, h2⟩, h3⟩
      refine ⟨h1, ?_⟩
      simp at h2 h3 ⊢
      exact ⟨h2.1, h3⟩
    · intro ⟨h1, h2⟩
      have := (zlin_lt h1).1
      simp at h2 ⊢
      exact ⟨⟨h1, h2.1, by omega⟩, h2.2⟩
  · intro q hq
    exact f3.2 q (List.mem_filter.mp hq).1
end VIC2
