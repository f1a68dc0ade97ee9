/-! ===== the model runs the steps; a run from the beginning ===== -/
theorem aUse_I {k : zK} {B : Nat} {a : zA} {sp v b : Nat} {wo : Option Nat} (hs : sp < 256) (hI : zIA B a) (hC : aC a + 1 ≤ B) (hwo : ∀ w, wo = some w → w < 65536) : zIA B (aUse k a sp wo v b).1 ∧ aC (aUse k a sp wo v b).1 = aC a + 1 := by
  have hl : sp / 8 < 32 := by omega
  have hB := hI.2.2.2
  have h1 : zIA B (aMiss k a (sp / 8) v b).1 ∧ aC (aMiss k a (sp / 8) v b).1 = aC a := by
    unfold aMiss
    split
    · exact ⟨hI, rfl⟩
    · exact ⟨aMr_I hI 32 v b, (aMr_keep 32 a v b).1⟩
  have h2 : zIA B (aTk (aMiss k a (sp / 8) v b).1 (sp / 8)) := aTk_I h1.1 (by rw [h1.2]; exact hC) hl hB.2
  have h3 : aC (aTk (aMiss k a (sp / 8) v b).1 (sp / 8)) = aC a + 1 := by
    show aC (aMiss k a (sp / 8) v b).1 + 1 = _
    rw [h1.2]
  have hu : 0 < aU (aTk (aMiss k a (sp / 8) v b).1 (sp / 8)) (sp / 8) := by
    show 0 < nup _ _ _ _
    unfold nup
    rw [if_pos rfl]
    omega
  unfold aUse
  cases wo with
  | none => exact ⟨h2, h3⟩
  | some w =>
    exact ⟨aMr_I (aPut_I h2 hs hu (hwo w rfl)) _ _ _, ((aMr_keep 32 _ _ _).1).trans h3⟩
section RUN2
variable {st wy : Nat} {wg : Bool} {B : Nat}
theorem zov_some {d : Int32} {w : Nat} : zov d (some w) = nI w := rfl
theorem pX7_run_loop (hsw : zSW st wy) {line at' put : Nat → Int32} {L : zL} (hL : zLok L) (hx : zLM L line at' put) (hl : L.length ≤ 16) : ∀ (R P : zL) (N : Nat) (a : zA) (t : Int32) (h v b : Nat) (o : Int32) (od x : Nat → Int32), P ++ R = L → R.length < N → zIA B a → aC a + R.length ≤ B → zRX a x → zIT (mkK st wy wg false) a →
    ∃ o2 od2 y, fX7_steps_12 (nI wy) (nI st) (nI L.length) (nI (zbn wg)) at' line put N (nI P.length) (nI v) (nI b) o t (nI h) od x = some (nI (aRun (mkK st wy wg false) P.length R (a, t, h, v, b)).2.2.2.1, nI (aRun (mkK st wy wg false) P.length R (a, t, h, v, b)).2.2.2.2, o2, (aRun (mkK st wy wg false) P.length R (a, t, h, v, b)).2.1, nI (aRun (mkK st wy wg false) P.length R (a, t, h, v, b)).2.2.1, od2, y) ∧
      zRX (aRun (mkK st wy wg false) P.length R (a, t, h, v, b)).1 y := by
  intro R
  induction R with
  | nil =>
    intro P N a t h v b o od x e hN hI hC hX hT
    obtain ⟨N, rfl⟩ : ∃ k, N = k + 1 := ⟨N - 1, by omega⟩
    rw [List.append_nil] at e
    rw [fX7_steps_12, e, if_pos (Int32.le_refl _)]
    exact ⟨_, _, _, rfl, hX⟩
  | cons s R ih =>
    intro P N a t h v b o od x e hN hI hC hX hT
    obtain ⟨sp, wo⟩ := s
    obtain ⟨N, rfl⟩ : ∃ k, N = k + 1 := ⟨N - 1, by omega⟩
    have hlen : L.length = P.length + R.length + 1 := by rw [← e]; simp; omega
    have hs := hL (sp, wo) (by rw [← e]; simp)
    obtain ⟨x1, x2, x3⟩ := hx P.length (sp, wo) (by rw [← e]; simp)
    have e' : (P ++ [(sp, wo)]) ++ R = L := by rw [← e]; simp
    simp at hC hN
    have hk : zKok (mkK st wy wg false) := mkK_ok hsw
    obtain ⟨i1, i2⟩ := aUse_I (k := mkK st wy wg false) (v := v) (b := b) hs.1 hI (by omega) hs.2
    have hT2 : zIT (mkK st wy wg false) (aUse (mkK st wy wg false) a sp wo v b).1 := aUse_T hk hs.1 hT
    have fin : ∀ (o2 : Int32) (od2 y : Nat → Int32), zRX (aUse (mkK st wy wg false) a sp wo v b).1 y → ∃ o3 od3 y3, fX7_steps_83 (nI wy) (nI st) (nI L.length) (nI (zbn wg)) at' line put (fX7_steps_12 (nI wy) (nI st) (nI L.length) (nI (zbn wg)) at' line put N) (nI P.length) (zbi (decide (0 < aU a (sp / 8)))) (nI (aUse (mkK st wy wg false) a sp wo v b).2.1) (nI (aUse (mkK st wy wg false) a sp wo v b).2.2) o2 t (nI h) od2 y = some (nI (aRun (mkK st wy wg false) P.length ((sp, wo) :: R) (a, t, h, v, b)).2.2.2.1, nI (aRun (mkK st wy wg false) P.length ((sp, wo) :: R) (a, t, h, v, b)).2.2.2.2, o3, (aRun (mkK st wy wg false) P.length ((sp, wo) :: R) (a, t, h, v, b)).2.1, nI (aRun (mkK st wy wg false) P.length ((sp, wo) :: R) (a, t, h, v, b)).2.2.1, od3, y3) ∧
      zRX (aRun (mkK st wy wg false) P.length ((sp, wo) :: R) (a, t, h, v, b)).1 y3 := by
      intro o2 od2 y hy
      have step := ih (P ++ [(sp, wo)]) N (aUse (mkK st wy wg false) a sp wo v b).1 (if 0 < aU a (sp / 8) then t ||| ((1 : Int32) <<< (nI P.length &&& 31)) else t) (h + zbn (decide (0 < aU a (sp / 8)))) (aUse (mkK st wy wg false) a sp wo v b).2.1 (aUse (mkK st wy wg false) a sp wo v b).2.2 o2 od2 y e' (by omega) i1 (by rw [i2]; omega) hy hT2
      rw [show (P ++ [(sp, wo)]).length = P.length + 1 by simp] at step
      unfold fX7_steps_83 fX7_steps_100
      simp only [zlet_e]
      by_cases c : 0 < aU a (sp / 8)
      · rw [if_neg (show ¬ zbi (decide (0 < aU a (sp / 8))) = 0 by rw [decide_eq_true c]; decide), if_neg (show ¬ zbi (decide (0 < aU a (sp / 8))) = 0 by rw [decide_eq_true c]; decide)]
        rw [show nI P.length + 1 = nI (P.length + 1) from nI_1 _, show nI h + 1 = nI (h + 1) from nI_1 _]
        rw [if_pos c, show zbn (decide (0 < aU a (sp / 8))) = 1 by rw [decide_eq_true c]; rfl] at step
        unfold aRun
        rw [if_pos c, show zbn (decide (0 < aU a (sp / 8))) = 1 by rw [decide_eq_true c]; rfl]
        exact step
      · rw [if_pos (show zbi (decide (0 < aU a (sp / 8))) = 0 by rw [decide_eq_false c]; decide), if_pos (show zbi (decide (0 < aU a (sp / 8))) = 0 by rw [decide_eq_false c]; decide)]
        rw [show nI P.length + 1 = nI (P.length + 1) from nI_1 _, show nI h + 0 = nI (h + 0) from nI_add h 0, show t ||| (0 : Int32) = t from Int32.or_zero]
        rw [if_neg c, show zbn (decide (0 < aU a (sp / 8))) = 0 by rw [decide_eq_false c]; rfl] at step
        unfold aRun
        rw [if_neg c, show zbn (decide (0 < aU a (sp / 8))) = 0 by rw [decide_eq_false c]; rfl]
        exact step
    rw [fX7_steps_12, if_neg (nI_ge (by omega) (by omega)), zald_n (by omega) (by omega), x3]
    cases wo with
    | none =>
      rw [if_pos (show zov (-1) none = -1 from rfl), zald_n (by omega) (by omega), x1]
      obtain ⟨o2, od2, y, f1, f2, f3⟩ := pX7_uses (wg := wg) (v := v) (b := b) (o := o) (od := od) hsw (show sp / 8 < 32 by omega) hI (by omega) hX hT
      rw [f1, Option.bind_some]
      exact fin o2 od2 y f2
    | some w =>
      have hw := hs.2 w rfl
      rw [if_neg (show ¬ zov (-1) (some w) = -1 from fun z => nI_pos (n := w) (by omega) (by rw [← zov_some (d := -1), z]; decide)), zald_n (by omega) (by omega), zald_n (by omega) (by omega), zald_n (by omega) (by omega), x1, x2, x3, zov_some]
      obtain ⟨o2, od2, y, f1, f2⟩ := pX7_puts (wg := wg) (v := v) (b := b) (o := o) (od := od) hsw hs.1 hw hI (by omega) hX hT
      rw [f1, Option.bind_some]
      exact fin o2 od2 y f2
end RUN2
/-- others as bits -/
def zbt (o : Int32) (i : Nat) : Bool := decide ((o >>> (nI i &&& 31)) &&& 1 = 1)
theorem pX7_bit (o : Int32) (i : Nat) : fX7_bit o (nI i) = some (zbi (zbt o i)) := by
  unfold fX7_bit zbt zbi
  simp only [zlet_e]
  by_cases c : (o >>> (nI i &&& 31)) &&& 1 = 1
  · simp [c]
  · simp [c]
/-- memory, some words the other ones -/
def uMem (o : Int32) : Nat → List (Nat × Nat) → (Nat → Int32) → Nat → Int32
  | _, [], m => m
  | i, (sp, w) :: U, m => uMem o (i + 1) U (if zbt o i then wup m sp (nI w) else m)
def aBeg (m : Nat → Int32) : zA := (fun _ => 0, fun _ => 0, fun _ => 0, m, m, 0)
def zUok (U : List (Nat × Nat)) : Prop := ∀ s ∈ U, s.1 < 256 ∧ s.2 < 65536
def zUX (U : List (Nat × Nat)) (spot word : Nat → Int32) : Prop := ∀ i s, U[i]? = some s → spot i = nI s.1 ∧ word i = nI s.2
def zMok (m : Nat → Int32) : Prop := ∀ j, j < 256 → ∃ q, q < 65536 ∧ m j = nI q
theorem uMem_ok {o : Int32} : ∀ {U : List (Nat × Nat)} {i : Nat} {m : Nat → Int32}, zUok U → zMok m → zMok (uMem o i U m)
  | [], i, m, _, h => h
  | (sp, w) :: U, i, m, hu, h => by
    refine uMem_ok (U := U) (fun s hs => hu s (List.mem_cons_of_mem _ hs)) ?_
    split
    · intro j hj
      unfold wup
      split
      · exact ⟨w, (hu (sp, w) List.mem_cons_self).2, rfl⟩
      · exact h j hj
    · exact h
theorem aBeg_I {B : Nat} {m : Nat → Int32} (h : zMok m) (hB : B < 1000000) : zIA B (aBeg m) :=
  ⟨fun l hl => ⟨Nat.zero_le _, fun _ => rfl, fun _ i hi => rfl, Nat.le_refl _, Nat.le_refl _⟩, fun l m' _ _ h0 => absurd h0 (Nat.lt_irrefl 0), fun j hj => ⟨h j hj, h j hj⟩, Nat.zero_le _, hB⟩
theorem aBeg_T {k : zK} {m : Nat → Int32} : zIT k (aBeg m) := fun s hs => by
  have : aTags k (aBeg m) s 99 = 0 := by
    unfold aTags aCs
    rw [List.filter_eq_nil_iff.mpr]
    · rfl
    · intro x hx
      unfold aCd
      simp [aBeg]
  rw [this]
  exact Nat.zero_le _
theorem zbl_z {β : Type} {b : Bool} {K : Option β} : zbl (nI (zbn b)) K = K := zbl_b (by cases b; exact Or.inl rfl; exact Or.inr rfl)
theorem pJ7_fill_loop {n : Nat} (hn : n ≤ 1200) {v : Int32} : ∀ (m N i : Nat) (s : Nat → Int32), i + m = n → m < N → (∀ j, j < i → s j = v) → ∃ g, fJ7_fill_53178_5 n N v (nI i) (nI n) s = some g ∧ ∀ j, j < n → g j = v := by
  intro m
  induction m with
  | zero =>
    intro N i s h hN hs
    obtain ⟨N, rfl⟩ : ∃ k, N = k + 1 := ⟨N - 1, by omega⟩
    rw [fJ7_fill_53178_5, if_pos (nI_le (by omega) (by omega))]
    exact ⟨s, rfl, fun j hj => hs j (by omega)⟩
  | succ m ih =>
    intro N i s h hN hs
    obtain ⟨N, rfl⟩ : ∃ k, N = k + 1 := ⟨N - 1, by omega⟩
    rw [fJ7_fill_53178_5, if_neg (nI_ge (by omega) (by omega)), zast_n (by omega) (by omega), zlet_e, show nI i + 1 = nI (i + 1) from nI_1 _]
    exact ih N (i + 1) _ (by omega) (by omega) (fun j hj => by
      by_cases c : j = i
      · rw [c, pk_us]
      · rw [pk_un c]; exact hs j (by omega))
theorem pJ7_fill {n : Nat} (hn : n ≤ 1200) {v : Int32} (s : Nat → Int32) : ∃ g, fJ7_fill_53178 n s v = some g ∧ ∀ j, j < n → g j = v := pJ7_fill_loop hn n zF 0 s (by omega) (zF_gt (by omega)) (fun j hj => by omega)
