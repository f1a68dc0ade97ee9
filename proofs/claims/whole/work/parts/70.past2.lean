/-! ===== the model remembers; undo ===== -/
theorem n9135 {l : Nat} (h : 9135 ≤ l) (hl : l ≤ 20000) : (9135 : Int32) ≤ nI l := nI_le (a := 9135) (b := l) h (by omega)
theorem n9135' {l : Nat} (h : l < 9135) : ¬ (9135 : Int32) ≤ nI l := nI_ge (a := l) (b := 9135) h (by omega)
section REM
variable {cw s1 s2 s3 : Int32} {v0 x : Nat → Int32} {a : zA}
theorem pX7_rem52 {q : Nat} (hq : q < 16) (hX : zRX a v0) (p0 : Nat → Int32) : ∀ (n N i : Nat) (past : Nat → Int32), i + n = 609 → n < N → (∀ j, past j = if 609 * q ≤ j ∧ j < 609 * q + i then v0 (j - 609 * q) else p0 j) →
    ∃ past' y, fX7_remembers_52 cw v0 N (nI i) (nI q) s1 s2 s3 past x = some (nI (q + 1), cw, 0, 0, past', y) ∧ zRX a y ∧ ∀ j, past' j = if 609 * q ≤ j ∧ j < 609 * q + 609 then v0 (j - 609 * q) else p0 j := by
  intro n
  induction n with
  | zero =>
    intro N i past e hN hp
    obtain ⟨N, rfl⟩ : ∃ k, N = k + 1 := ⟨N - 1, by omega⟩
    obtain ⟨y, f1, f2⟩ := pX7_works (s1 := s1) (s2 := s2) (s3 := s3) (cw := cw) (x := x) hX
    rw [fX7_remembers_52, if_pos (n609 (by omega) (by omega)), zlet_e, f1, Option.bind_some, show nI q + 1 = nI (q + 1) from nI_1 _]
    refine ⟨past, y, rfl, f2, fun j => ?_⟩
    rw [hp j, show i = 609 by omega]
  | succ n ih =>
    intro N i past e hN hp
    obtain ⟨N, rfl⟩ : ∃ k, N = k + 1 := ⟨N - 1, by omega⟩
    rw [fX7_remembers_52, if_neg (n609' (by omega)), zlet_e, zlet_e, show (609 : Int32) = nI 609 from rfl, pk_mul, nI_add, zald_n (by omega) (by omega), zast_n (by omega) (by omega), zlet_e, show nI i + 1 = nI (i + 1) from nI_1 _]
    refine ih N (i + 1) _ (by omega) (by omega) (fun j => ?_)
    by_cases c : j = 609 * q + i
    · rw [c, pk_us, if_pos (by omega), show 609 * q + i - 609 * q = i by omega]
    · rw [pk_un c, hp j]
      by_cases c2 : 609 * q ≤ j ∧ j < 609 * q + i
      · rw [if_pos c2, if_pos (by omega)]
      · rw [if_neg c2, if_neg (by omega)]
theorem pX7_rem11 (p0 : Nat → Int32) {ac : Int32} : ∀ (n N i : Nat) (past : Nat → Int32), i + n = 9135 → n < N → (∀ j, past j = if j < i then p0 (j + 609) else p0 j) →
    ∃ past', fX7_remembers_11 cw v0 N (nI i) ac s1 s2 s3 past x = fX7_remembers_52 cw v0 zF (nI 0) (ac - 1) s1 s2 s3 past' x ∧ ∀ j, past' j = if j < 9135 then p0 (j + 609) else p0 j := by
  intro n
  induction n with
  | zero =>
    intro N i past e hN hp
    obtain ⟨N, rfl⟩ : ∃ k, N = k + 1 := ⟨N - 1, by omega⟩
    rw [fX7_remembers_11, if_pos (n9135 (by omega) (by omega)), zlet_e]
    exact ⟨past, rfl, fun j => by rw [hp j, show i = 9135 by omega]⟩
  | succ n ih =>
    intro N i past e hN hp
    obtain ⟨N, rfl⟩ : ∃ k, N = k + 1 := ⟨N - 1, by omega⟩
    rw [fX7_remembers_11, if_neg (n9135' (by omega)), zlet_e, show nI i + 609 = nI (i + 609) from nI_add i 609, zald_n (by omega) (by omega), zast_n (by omega) (by omega), zlet_e, show nI i + 1 = nI (i + 1) from nI_1 _]
    refine ih N (i + 1) _ (by omega) (by omega) (fun j => ?_)
    by_cases c : j = i
    · rw [c, pk_us, if_pos (by omega), hp (i + 609), if_neg (by omega)]
    · rw [pk_un c, hp j]
      by_cases c2 : j < i
      · rw [if_pos c2, if_pos (by omega)]
      · rw [if_neg c2, if_neg (by omega)]
theorem pX7_remembers {st wy : Nat} {wg : Bool} {nc : Nat} {r : zA} {A : List zAc} {acts : Int32} {past : Nat → Int32} (h : zAb st wy wg nc r A) (hM : zMp (mkK st wy wg false) r A acts past) (hX : zRX (aActs (mkK st wy wg false) r A) v0) (z : zAc) :
    ∃ acts' past' y, fX7_remembers acts s1 s2 s3 cw past v0 x = some (acts', cw, 0, 0, past', y) ∧ zRX (aActs (mkK st wy wg false) r A) y ∧ zMp (mkK st wy wg false) (zNx (mkK st wy wg false) r A z).1 (zNx (mkK st wy wg false) r A z).2 acts' past' := by
  obtain ⟨m1, m2⟩ := hM
  have h5 := h.2.2.2.2.1
  unfold fX7_remembers
  by_cases c : A.length < 16
  · obtain ⟨p', y, f1, f2, f3⟩ := pX7_rem52 (cw := cw) (s1 := s1) (s2 := s2) (s3 := s3) (x := x) c hX past 609 zF 0 past (by omega) (zF_gt (by omega)) (fun j => by rw [if_neg (by omega)])
    have e : zNx (mkK st wy wg false) r A z = (r, A ++ [z]) := by unfold zNx; rw [if_pos c]
    rw [if_neg (show ¬ acts = 16 by rw [m1]; exact fun q => by have := (nI_eq (a := A.length) (b := 16) (by omega) (by omega)).mp q; omega), m1, e]
    refine ⟨_, p', y, f1, f2, ⟨by simp, fun i hi => ?_⟩⟩
    simp at hi
    by_cases ci : i < A.length
    · rw [List.take_append_of_le_length (by omega)]
      refine zRX_cg (m2 i ci) (fun j hj => ?_)
      show p' (609 * i + j) = past (609 * i + j)
      rw [f3, if_neg (by omega)]
    · have ei : i = A.length := by omega
      rw [ei, List.take_left' rfl]
      refine zRX_cg hX (fun j hj => ?_)
      show p' (609 * A.length + j) = v0 j
      rw [f3, if_pos (by omega), show 609 * A.length + j - 609 * A.length = j by omega]
  · have e16 : A.length = 16 := by omega
    obtain ⟨p1, g1, g2⟩ := pX7_rem11 (cw := cw) (s1 := s1) (s2 := s2) (s3 := s3) (v0 := v0) (x := x) (ac := acts) past 9135 zF 0 past (by omega) (zF_gt (by omega)) (fun j => by rw [if_neg (by omega)])
    obtain ⟨p', y, f1, f2, f3⟩ := pX7_rem52 (q := 15) (cw := cw) (s1 := s1) (s2 := s2) (s3 := s3) (x := x) (by omega) hX p1 609 zF 0 p1 (by omega) (zF_gt (by omega)) (fun j => by rw [if_neg (by omega)])
    have ea : acts - 1 = nI 15 := by rw [m1, e16]; rfl
    rw [ea] at g1
    rw [if_pos (show acts = 16 by rw [m1, e16]; rfl), show (0 : Int32) = nI 0 from rfl, g1, f1]
    cases A with
    | nil => simp at e16
    | cons t T =>
      simp at e16
      have e : zNx (mkK st wy wg false) r (t :: T) z = (aAct (mkK st wy wg false) r t, T ++ [z]) := by unfold zNx; rw [if_neg (by simp; omega)]
      rw [e]
      refine ⟨_, p', y, rfl, f2, ⟨by simp [e16], fun i hi => ?_⟩⟩
      simp at hi
      by_cases ci : i < 15
      · rw [List.take_append_of_le_length (by omega)]
        have := m2 (i + 1) (by simp; omega)
        rw [List.take_succ_cons] at this
        refine zRX_cg (this : zRX (aActs (mkK st wy wg false) (aAct (mkK st wy wg false) r t) (T.take i)) _) (fun j hj => ?_)
        show p' (609 * i + j) = past (609 * (i + 1) + j)
        rw [f3, if_neg (by omega), g2, if_pos (by omega), show 609 * i + j + 609 = 609 * (i + 1) + j by omega]
      · have ei : i = T.length := by omega
        rw [ei, List.take_left' rfl]
        refine zRX_cg (hX : zRX (aActs (mkK st wy wg false) (aAct (mkK st wy wg false) r t) T) _) (fun j hj => ?_)
        show p' (609 * T.length + j) = v0 j
        rw [f3, if_pos (by omega), e16, show 609 * 15 + j - 609 * 15 = j by omega]
theorem pX7_undo_loop {past : Nat → Int32} {q : Nat} (hq : q < 16) {th tr wh : Int32} : ∀ (n N i : Nat) (v0 : Nat → Int32), i + n = 609 → n < N → (∀ j, j < i → v0 j = past (609 * q + j)) →
    ∃ y, fX7_undo_38 past N (nI i) th tr wh (nI q) v0 = some (1, th, 0, -1, nI q, y) ∧ ∀ j, j < 609 → y j = past (609 * q + j) := by
  intro n
  induction n with
  | zero =>
    intro N i v0 e hN hp
    obtain ⟨N, rfl⟩ : ∃ k, N = k + 1 := ⟨N - 1, by omega⟩
    rw [fX7_undo_38, if_pos (n609 (by omega) (by omega))]
    unfold fX7_granted fX7_good
    rw [Option.bind_some, Option.bind_some, zbl_n1]
    exact ⟨v0, rfl, fun j hj => hp j (by omega)⟩
  | succ n ih =>
    intro N i v0 e hN hp
    obtain ⟨N, rfl⟩ : ∃ k, N = k + 1 := ⟨N - 1, by omega⟩
    rw [fX7_undo_38, if_neg (n609' (by omega)), zlet_e, zlet_e, show (609 : Int32) = nI 609 from rfl, pk_mul, nI_add, zald_n (by omega) (by omega), zast_n (by omega) (by omega), zlet_e, show nI i + 1 = nI (i + 1) from nI_1 _]
    refine ih N (i + 1) _ (by omega) (by omega) (fun j hj => ?_)
    by_cases c : j = i
    · rw [c, pk_us]
    · rw [pk_un c]; exact hp j (by omega)
theorem pX7_image_loop {q : Nat} (hq : q < 3) {th tr wh : Int32} (k0 : Nat → Int32) : ∀ (n N i : Nat) (kept : Nat → Int32), i + n = 609 → n < N → (∀ j, kept j = if 609 * q ≤ j ∧ j < 609 * q + i then v0 (j - 609 * q) else k0 j) →
    ∃ kept', fX7_image_34 v0 N (nI i) th tr wh (nI q) kept = some (nI q, th, 0, -1, nI (q + 1), kept') ∧ ∀ j, kept' j = if 609 * q ≤ j ∧ j < 609 * q + 609 then v0 (j - 609 * q) else k0 j := by
  intro n
  induction n with
  | zero =>
    intro N i kept e hN hp
    obtain ⟨N, rfl⟩ : ∃ k, N = k + 1 := ⟨N - 1, by omega⟩
    rw [fX7_image_34, if_pos (n609 (by omega) (by omega)), zlet_e, zlet_e, show nI q + 1 = nI (q + 1) from nI_1 _, show nI (q + 1) - 1 = nI q from nI_pred q]
    exact ⟨kept, rfl, fun j => by rw [hp j, show i = 609 by omega]⟩
  | succ n ih =>
    intro N i kept e hN hp
    obtain ⟨N, rfl⟩ : ∃ k, N = k + 1 := ⟨N - 1, by omega⟩
    rw [fX7_image_34, if_neg (n609' (by omega)), zlet_e, zlet_e, show (609 : Int32) = nI 609 from rfl, pk_mul, nI_add, zald_n (by omega) (by omega), zast_n (by omega) (by omega), zlet_e, show nI i + 1 = nI (i + 1) from nI_1 _]
    refine ih N (i + 1) _ (by omega) (by omega) (fun j => ?_)
    by_cases c : j = 609 * q + i
    · rw [c, pk_us, if_pos (by omega), show 609 * q + i - 609 * q = i by omega]
    · rw [pk_un c, hp j]
      by_cases c2 : 609 * q ≤ j ∧ j < 609 * q + i
      · rw [if_pos c2, if_pos (by omega)]
      · rw [if_neg c2, if_neg (by omega)]
theorem pX7_back_loop {kept : Nat → Int32} {q : Nat} (hq : q < 3) {im th tr wh ac : Int32} : ∀ (n N i : Nat) (v0 : Nat → Int32), i + n = 609 → n < N → (∀ j, j < i → v0 j = kept (609 * q + j)) →
    ∃ y, fX7_back_32 im kept N (nI q) (nI i) th tr wh ac v0 = some (1, th, 0, -1, 0, y) ∧ ∀ j, j < 609 → y j = kept (609 * q + j) := by
  intro n
  induction n with
  | zero =>
    intro N i v0 e hN hp
    obtain ⟨N, rfl⟩ : ∃ k, N = k + 1 := ⟨N - 1, by omega⟩
    rw [fX7_back_32, if_pos (n609 (by omega) (by omega))]
    unfold fX7_granted fX7_good
    rw [Option.bind_some, Option.bind_some, zbl_n1]
    exact ⟨v0, rfl, fun j hj => hp j (by omega)⟩
  | succ n ih =>
    intro N i v0 e hN hp
    obtain ⟨N, rfl⟩ : ∃ k, N = k + 1 := ⟨N - 1, by omega⟩
    rw [fX7_back_32, if_neg (n609' (by omega)), zlet_e, zlet_e, show (609 : Int32) = nI 609 from rfl, pk_mul, nI_add, zald_n (by omega) (by omega), zast_n (by omega) (by omega), zlet_e, show nI i + 1 = nI (i + 1) from nI_1 _]
    refine ih N (i + 1) _ (by omega) (by omega) (fun j hj => ?_)
    by_cases c : j = i
    · rw [c, pk_us]
    · rw [pk_un c]; exact hp j (by omega)
end REM
