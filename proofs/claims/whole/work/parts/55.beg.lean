/-! ===== begin, asTold, works, remains, copyOf ===== -/
theorem aBeg_RS {k : zK} {mm used last shape dirty memory words : Nat → Int32} (h1 : ∀ j, j < 32 → used j = 0) (h2 : ∀ j, j < 32 → dirty j = 0) (h3 : ∀ j, j < 256 → memory j = mm j) (h4 : ∀ j, j < 256 → words j = mm j) : zRS k (aBeg mm) used last shape dirty memory words :=
  ⟨fun l hl => ⟨h1 l hl, h2 l hl, fun h => absurd h (Nat.lt_irrefl 0)⟩, fun j hj => ⟨h3 j hj, h4 j hj⟩⟩
theorem aBeg_RX {mm x : Nat → Int32} (h1 : ∀ j, j < 256 → x j = mm j) (h2 : ∀ j, 256 ≤ j → j < 609 → x j = 0) : zRX (aBeg mm) x :=
  ⟨fun l hl => ⟨h2 _ (by omega) (by omega), h2 _ (by omega) (by omega), fun h => absurd h (Nat.lt_irrefl 0)⟩, h1, h2 608 (by omega) (by omega)⟩
section BEG
variable {U : List (Nat × Nat)} {spot word : Nat → Int32}
theorem pX3_begin_loop (hU : zUok U) (hx : zUX U spot word) (hu : U.length ≤ 4) {c1 c2 : Int32} {cm : Nat → Int32} {o s1 s2 s3 s4 s5 s6 s7 s8 : Int32} {used words dirty : Nat → Int32} : ∀ (R P : List (Nat × Nat)) (N : Nat) (mm memory : Nat → Int32), P ++ R = U → R.length < N → (∀ j, j < 256 → memory j = mm j) →
    ∃ d m u ws, fX3_begin_57 c1 c2 (nI U.length) cm spot word N o (nI P.length) s1 s2 s3 s4 s5 s6 s7 s8 dirty memory used words = some (s1, s2, s3, s4, 0, 0, 0, 0, d, m, u, ws) ∧ (∀ j, j < 32 → u j = 0) ∧ (∀ j, j < 32 → d j = 0) ∧ (∀ j, j < 256 → m j = uMem o P.length R mm j) ∧ (∀ j, j < 256 → ws j = uMem o P.length R mm j) := by
  intro R
  induction R with
  | nil =>
    intro P N mm memory e hN hm
    obtain ⟨N, rfl⟩ : ∃ k, N = k + 1 := ⟨N - 1, by omega⟩
    rw [List.append_nil] at e
    obtain ⟨g1, e1, e2⟩ := pJ7_fill (n := 32) (by omega) (v := 0) used
    obtain ⟨g2, e3, e4⟩ := pJ7_fill (n := 32) (by omega) (v := 0) dirty
    rw [fX3_begin_57, e, if_pos (Int32.le_refl _), show (256 : Int32) = nI 256 from rfl, zl0, zcpy_n (by omega) (by omega) (by omega) (by omega), ← zl0, e1, Option.bind_some, e3, Option.bind_some]
    unfold fX3_countAnew
    rw [Option.bind_some]
    refine ⟨_, _, _, _, rfl, e2, e4, hm, fun j hj => ?_⟩
    rw [pk_cpy_in (by omega) (by omega), show 0 + (j - 0) = j by omega]
    exact hm j hj
  | cons s R ih =>
    intro P N mm memory e hN hm
    obtain ⟨sp, w⟩ := s
    obtain ⟨N, rfl⟩ : ∃ k, N = k + 1 := ⟨N - 1, by omega⟩
    have hlen : U.length = P.length + R.length + 1 := by rw [← e]; simp; omega
    have hs := hU (sp, w) (by rw [← e]; simp)
    obtain ⟨x1, x2⟩ := hx P.length (sp, w) (by rw [← e]; simp)
    have e' : (P ++ [(sp, w)]) ++ R = U := by rw [← e]; simp
    simp at hN
    rw [fX3_begin_57, if_neg (nI_ge (by omega) (by omega))]
    simp only [zlet_e]
    rw [show nI P.length + 1 = nI (P.length + 1) from nI_1 _]
    unfold uMem
    have h1 : (P ++ [(sp, w)]).length = P.length + 1 := by simp
    by_cases c : (o >>> (nI P.length &&& 31)) &&& 1 = 1
    · rw [if_pos c, zald_n (by omega) (by omega), zald_n (by omega) (by omega), x1, x2, zast_n hs.1 (by omega), show zbt o P.length = true from decide_eq_true c, if_pos rfl]
      have := ih (P ++ [(sp, w)]) N (wup mm sp (nI w)) (upd memory sp (nI w)) e' (by omega) (fun j hj => by
        unfold wup
        by_cases q : j = sp
        · rw [q, pk_us, if_pos rfl]
        · rw [pk_un q, if_neg q]; exact hm j hj)
      rw [h1] at this
      exact this
    · rw [if_neg c, show zbt o P.length = false from decide_eq_false c, if_neg (by decide)]
      have := ih (P ++ [(sp, w)]) N mm memory e' (by omega) hm
      rw [h1] at this
      exact this
theorem pX3_begin (hU : zUok U) (hx : zUX U spot word) (hu : U.length ≤ 4) {st wy : Nat} {wg pl : Bool} {mm cm : Nat → Int32} {o s1 s2 s3 s4 s5 s6 s7 s8 : Int32} {memory used words dirty : Nat → Int32} (hm : ∀ j, j < 256 → cm j = mm j) :
    ∃ d m u ws, fX3_begin s1 s2 s3 s4 s5 s6 s7 s8 (nI st) (nI (zbn wg)) (nI U.length) cm spot word dirty memory used words (nI wy) (nI (zbn pl)) o = some (nI st, nI wy, nI (zbn (wg && !pl)), nI (zbn pl), 0, 0, 0, 0, d, m, u, ws) ∧ ∀ (k : zK) (last shape : Nat → Int32), zRS k (aBeg (uMem o 0 U mm)) u last shape d m ws := by
  have key : ∀ b : Bool, ∃ d m u ws, fX3_begin_35 (nI st) (nI (zbn wg)) (nI U.length) cm spot word o (nI (zbn b)) (nI st) (nI wy) s3 (nI (zbn pl)) s5 s6 s7 s8 dirty memory used words = some (nI st, nI wy, nI (zbn b), nI (zbn pl), 0, 0, 0, 0, d, m, u, ws) ∧ ∀ (k : zK) (last shape : Nat → Int32), zRS k (aBeg (uMem o 0 U mm)) u last shape d m ws := by
    intro b
    unfold fX3_begin_35
    rw [zbl_z, show (256 : Int32) = nI 256 from rfl, zl0, zcpy_n (by omega) (by omega) (by omega) (by omega)]
    obtain ⟨d, m, u, ws, f1, f2, f3, f4, f5⟩ := pX3_begin_loop (o := o) (c1 := nI st) (c2 := nI (zbn wg)) (cm := cm) (s1 := nI st) (s2 := nI wy) (s3 := nI (zbn b)) (s4 := nI (zbn pl)) (s5 := s5) (s6 := s6) (s7 := s7) (s8 := s8) (used := used) (words := words) (dirty := dirty) hU hx hu U [] zF mm (va_cpy cm memory 0 0 256) rfl (zF_gt (by omega)) (fun j hj => by
      rw [pk_cpy_in (by omega) (by omega), show 0 + (j - 0) = j by omega]
      exact hm j hj)
    exact ⟨d, m, u, ws, f1, fun k la sh => aBeg_RS f2 f3 f4 f5⟩
  unfold fX3_begin
  rw [zbl_z]
  cases wg with
  | false =>
    rw [if_pos (show nI (zbn false) = 0 from rfl)]
    exact key false
  | true =>
    rw [if_neg (show ¬ nI (zbn true) = 0 by decide)]
    cases pl with
    | false =>
      rw [if_pos (show nI (zbn false) = 0 from rfl)]
      exact key true
    | true =>
      rw [if_neg (show ¬ nI (zbn true) = 0 by decide)]
      exact key false
theorem pX7_told_loop (hU : zUok U) (hx : zUX U spot word) (hu : U.length ≤ 4) {cw : Int32} {cm : Nat → Int32} {o s1 s2 s3 : Int32} : ∀ (R P : List (Nat × Nat)) (N : Nat) (mm x : Nat → Int32), P ++ R = U → R.length < N → (∀ j, j < 256 → x j = mm j) → (∀ j, 256 ≤ j → j < 609 → x j = 0) →
    ∃ y, fX7_asTold_43 cw (nI U.length) word cm spot N o (nI P.length) s1 s2 s3 x = some (cw, 0, 0, y) ∧ zRX (aBeg (uMem o P.length R mm)) y := by
  intro R
  induction R with
  | nil =>
    intro P N mm x e hN hm hz
    obtain ⟨N, rfl⟩ : ∃ k, N = k + 1 := ⟨N - 1, by omega⟩
    rw [List.append_nil] at e
    rw [fX7_asTold_43, e, if_pos (Int32.le_refl _)]
    unfold fX7_begins
    rw [Option.bind_some]
    exact ⟨x, rfl, aBeg_RX hm hz⟩
  | cons s R ih =>
    intro P N mm x e hN hm hz
    obtain ⟨sp, w⟩ := s
    obtain ⟨N, rfl⟩ : ∃ k, N = k + 1 := ⟨N - 1, by omega⟩
    have hlen : U.length = P.length + R.length + 1 := by rw [← e]; simp; omega
    have hs := hU (sp, w) (by rw [← e]; simp)
    obtain ⟨x1, x2⟩ := hx P.length (sp, w) (by rw [← e]; simp)
    have e' : (P ++ [(sp, w)]) ++ R = U := by rw [← e]; simp
    simp at hN
    rw [fX7_asTold_43, if_neg (nI_ge (by omega) (by omega)), pX7_bit, Option.bind_some]
    simp only [zlet_e]
    rw [show nI P.length + 1 = nI (P.length + 1) from nI_1 _]
    unfold uMem
    have h1 : (P ++ [(sp, w)]).length = P.length + 1 := by simp
    cases c : zbt o P.length with
    | true =>
      rw [if_neg (show ¬ zbi true = 0 by decide), zald_n (by omega) (by omega), zald_n (by omega) (by omega), x1, x2, zast_n (show sp < 609 by have := hs.1; simp at this; omega) (by omega), if_pos rfl]
      have hs1 : sp < 256 := hs.1
      have := ih (P ++ [(sp, w)]) N (wup mm sp (nI w)) (upd x sp (nI w)) e' (by omega) (fun j hj => by
        unfold wup
        by_cases q : j = sp
        · rw [q, pk_us, if_pos rfl]
        · rw [pk_un q, if_neg q]; exact hm j hj) (fun j h1 h2 => by rw [pk_un (by omega)]; exact hz j h1 h2)
      rw [h1] at this
      exact this
    | false =>
      rw [if_pos (show zbi false = 0 from rfl), if_neg (by decide)]
      have := ih (P ++ [(sp, w)]) N mm x e' (by omega) hm hz
      rw [h1] at this
      exact this
theorem n609 {l : Nat} (h : 609 ≤ l) (hl : l ≤ 1000) : (609 : Int32) ≤ nI l := nI_le (a := 609) (b := l) h (by omega)
theorem n609' {l : Nat} (h : l < 609) : ¬ (609 : Int32) ≤ nI l := nI_ge (a := l) (b := 609) h (by omega)
theorem pX7_asTold_2 (hU : zUok U) (hx : zUX U spot word) (hu : U.length ≤ 4) {cw : Int32} {mm cm : Nat → Int32} {o s1 s2 s3 : Int32} (hm : ∀ j, j < 256 → cm j = mm j) : ∀ (n N i : Nat) (x : Nat → Int32), i + n = 609 → n < N → (∀ j, j < i → x j = if j < 256 then mm j else 0) →
    ∃ y, fX7_asTold_2 cw (nI U.length) word cm spot N o (nI i) s1 s2 s3 x = some (cw, 0, 0, y) ∧ zRX (aBeg (uMem o 0 U mm)) y := by
  intro n
  induction n with
  | zero =>
    intro N i x h hN hi
    obtain ⟨N, rfl⟩ : ∃ k, N = k + 1 := ⟨N - 1, by omega⟩
    rw [fX7_asTold_2, if_pos (n609 (by omega) (by omega))]
    exact pX7_told_loop hU hx hu U [] zF mm x rfl (zF_gt (by omega)) (fun j hj => by rw [hi j (by omega), if_pos hj]) (fun j h1 h2 => by rw [hi j (by omega), if_neg (by omega)])
  | succ n ih =>
    intro N i x h hN hi
    obtain ⟨N, rfl⟩ : ∃ k, N = k + 1 := ⟨N - 1, by omega⟩
    rw [fX7_asTold_2, if_neg (n609' (by omega))]
    by_cases c : 256 ≤ i
    · rw [if_pos (show (256 : Int32) ≤ nI i from nI_le (a := 256) (b := i) c (by omega)), zast_n (by omega) (by omega), zlet_e, show nI i + 1 = nI (i + 1) from nI_1 _]
      refine ih N (i + 1) _ (by omega) (by omega) (fun j hj => ?_)
      by_cases q : j = i
      · rw [q, pk_us, if_neg (by omega)]
      · rw [pk_un q]; exact hi j (by omega)
    · rw [if_neg (show ¬ (256 : Int32) ≤ nI i from nI_ge (a := i) (b := 256) (by omega) (by omega)), zald_n (by omega) (by omega), zast_n (by omega) (by omega), zlet_e, show nI i + 1 = nI (i + 1) from nI_1 _]
      refine ih N (i + 1) _ (by omega) (by omega) (fun j hj => ?_)
      by_cases q : j = i
      · rw [q, pk_us, if_pos (by omega)]; exact hm i (by omega)
      · rw [pk_un q]; exact hi j (by omega)
theorem pX7_asTold (hU : zUok U) (hx : zUX U spot word) (hu : U.length ≤ 4) {cw : Int32} {mm cm x : Nat → Int32} {o s1 s2 s3 : Int32} (hm : ∀ j, j < 256 → cm j = mm j) :
    ∃ y, fX7_asTold s1 s2 s3 cw (nI U.length) x word cm spot o = some (cw, 0, 0, y) ∧ zRX (aBeg (uMem o 0 U mm)) y :=
  pX7_asTold_2 hU hx hu hm 609 zF 0 x (by omega) (zF_gt (by omega)) (fun j hj => by omega)
end BEG
theorem pX7_works_loop {cw s1 s2 s3 : Int32} {v0 : Nat → Int32} : ∀ (n N i : Nat) (x : Nat → Int32), i + n = 609 → n < N → (∀ j, j < i → x j = v0 j) → ∃ y, fX7_works_2 cw v0 N (nI i) s1 s2 s3 x = some (cw, 0, 0, y) ∧ ∀ j, j < 609 → y j = v0 j := by
  intro n
  induction n with
  | zero =>
    intro N i x h hN hi
    obtain ⟨N, rfl⟩ : ∃ k, N = k + 1 := ⟨N - 1, by omega⟩
    rw [fX7_works_2, if_pos (n609 (by omega) (by omega))]
    unfold fX7_begins
    rw [Option.bind_some]
    exact ⟨x, rfl, fun j hj => hi j (by omega)⟩
  | succ n ih =>
    intro N i x h hN hi
    obtain ⟨N, rfl⟩ : ∃ k, N = k + 1 := ⟨N - 1, by omega⟩
    rw [fX7_works_2, if_neg (n609' (by omega)), zald_n (by omega) (by omega), zast_n (by omega) (by omega), zlet_e, show nI i + 1 = nI (i + 1) from nI_1 _]
    refine ih N (i + 1) _ (by omega) (by omega) (fun j hj => ?_)
    by_cases q : j = i
    · rw [q, pk_us]
    · rw [pk_un q]; exact hi j (by omega)
theorem zRX_cg {a : zA} {x y : Nat → Int32} (h : zRX a x) (e : ∀ j, j < 609 → y j = x j) : zRX a y := by
  refine ⟨fun l hl => ?_, fun j hj => by rw [e j (by omega)]; exact h.2.1 j hj, by rw [e 608 (by omega)]; exact h.2.2⟩
  obtain ⟨h1, h2, h3⟩ := h.1 l hl
  refine ⟨by rw [e _ (by omega)]; exact h1, by rw [e _ (by omega)]; exact h2, fun hu => ?_⟩
  obtain ⟨h4, h5⟩ := h3 hu
  exact ⟨by rw [e _ (by omega)]; exact h4, fun i hi => by rw [e _ (by omega)]; exact h5 i hi⟩
theorem pX7_works {cw s1 s2 s3 : Int32} {v0 x : Nat → Int32} {a : zA} (h : zRX a v0) : ∃ y, fX7_works s1 s2 s3 cw v0 x = some (cw, 0, 0, y) ∧ zRX a y := by
  obtain ⟨y, e1, e2⟩ := pX7_works_loop (cw := cw) (s1 := s1) (s2 := s2) (s3 := s3) (v0 := v0) 609 zF 0 x (by omega) (zF_gt (by omega)) (fun j hj => by omega)
  exact ⟨y, e1, zRX_cg h e2⟩
theorem pX7_remains_loop {x : Nat → Int32} : ∀ (n N i : Nat) (v0 : Nat → Int32), i + n = 609 → n < N → (∀ j, j < i → v0 j = x j) → ∃ y, fX7_remains_2 x N (nI i) v0 = some y ∧ ∀ j, j < 609 → y j = x j := by
  intro n
  induction n with
  | zero =>
    intro N i v0 h hN hi
    obtain ⟨N, rfl⟩ : ∃ k, N = k + 1 := ⟨N - 1, by omega⟩
    rw [fX7_remains_2, if_pos (n609 (by omega) (by omega))]
    exact ⟨v0, rfl, fun j hj => hi j (by omega)⟩
  | succ n ih =>
    intro N i v0 h hN hi
    obtain ⟨N, rfl⟩ : ∃ k, N = k + 1 := ⟨N - 1, by omega⟩
    rw [fX7_remains_2, if_neg (n609' (by omega)), zald_n (by omega) (by omega), zast_n (by omega) (by omega), zlet_e, show nI i + 1 = nI (i + 1) from nI_1 _]
    refine ih N (i + 1) _ (by omega) (by omega) (fun j hj => ?_)
    by_cases q : j = i
    · rw [q, pk_us]
    · rw [pk_un q]; exact hi j (by omega)
theorem pX7_remains {v0 x : Nat → Int32} {a : zA} (h : zRX a x) : ∃ y, fX7_remains v0 x = some y ∧ zRX a y := by
  obtain ⟨y, e1, e2⟩ := pX7_remains_loop (x := x) 609 zF 0 v0 (by omega) (zF_gt (by omega)) (fun j hj => by omega)
  exact ⟨y, e1, zRX_cg h e2⟩
theorem pX3_copyOf {k : zK} {a : zA} {st wy cl : Int32} {wg pl : Bool} {s1 s2 s3 s4 s5 s6 s7 s8 : Int32} {used last shape dirty memory words used' last' shape' dirty' memory' words' : Nat → Int32} (hR : zRS k a used last shape dirty memory words) :
    ∃ d la m sh u ws, fX3_copyOf s1 s2 s3 s4 s5 s6 s7 s8 st wy (nI (zbn wg)) (nI (zbn pl)) cl dirty last memory shape used words dirty' last' memory' shape' used' words' = some (st, wy, nI (zbn wg), nI (zbn pl), cl, 0, 0, 0, d, la, m, sh, u, ws) ∧ zRS k a u la sh d m ws := by
  unfold fX3_copyOf
  rw [zbl_z, zbl_z, show (256 : Int32) = nI 256 from rfl, show (32 : Int32) = nI 32 from rfl, zl0, zcpy_n (by omega) (by omega) (by omega) (by omega), zcpy_n (by omega) (by omega) (by omega) (by omega), zcpy_n (by omega) (by omega) (by omega) (by omega), zcpy_n (by omega) (by omega) (by omega) (by omega), zcpy_n (by omega) (by omega) (by omega) (by omega), zcpy_n (by omega) (by omega) (by omega) (by omega)]
  unfold fX3_countAnew
  rw [Option.bind_some]
  have h0 : ∀ {f g : Nat → Int32} {n j : Nat}, j < n → va_cpy f g 0 0 n j = f j := fun {f g n j} hj => by
    rw [pk_cpy_in (by omega) (by omega), show 0 + (j - 0) = j by omega]
  refine ⟨_, _, _, _, _, _, rfl, ⟨fun l hl => ?_, fun j hj => ?_⟩⟩
  · rw [h0 hl, h0 hl, h0 hl, h0 hl]
    exact hR.1 l hl
  · rw [h0 hj, h0 hj]
    exact hR.2 j hj
