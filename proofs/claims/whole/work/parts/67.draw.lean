/-! ===== runs by draws, both sides ===== -/
def zdr (d : Nat) : Nat := (75 * d + 74) % 65537
theorem zdr_lt (d : Nat) : zdr d < 65537 := Nat.mod_lt _ (by decide)
theorem pX5_drawAfter {d : Nat} (hd : d < 65537) : fX5_drawAfter (nI d) = some (nI (zdr d)) := by
  unfold fX5_drawAfter
  rw [zlet_e, zlet_e, show (75 : Int32) * nI d = nI (75 * d) from pk_mul 75 d, show nI (75 * d) + 74 = nI (75 * d + 74) from nI_add _ 74, show (65537 : Int32) = nI 65537 from rfl, zrem_n (by omega) (by omega) (by omega)]
  rfl
theorem pX7_draws {d k : Nat} (hd : d < 65537) (h0 : 0 < k) (hk : k ≤ 300) : fX7_draws (nI d) (nI k) = some (nI (zdr d % k), nI (zdr d)) := by
  have hz := zdr_lt d
  unfold fX7_draws
  simp only [zlet_e]
  rw [nI_l (by omega), show (75 : Int64) * lN d = lN (75 * d) from lN_mul 75 d, show lN (75 * d) + 74 = lN (75 * d + 74) from lN_add _ 74, show (65537 : Int64) = lN 65537 from rfl, zreml_n (by omega) (by omega) (by omega), lN_i, show (75 * d + 74) % 65537 = zdr d from rfl, zrem_n (by omega) h0 (by omega)]
section DRAW
variable {st wy : Nat} {wg : Bool} {B : Nat}
theorem drawn_loop (hsw : zSW st wy) {n1 n2 n3 n4 n5 cw : Int32} {n6 n7 n8 n9 n10 n11 cv : Nat → Int32} {nn : Nat} (hnn : nn ≤ 200) : ∀ (n N i d h v b : Nat) (a : zA) (used last shape dirty memory words od x : Nat → Int32) (o : Int32), i + n = nn → n < N → d < 65537 → zIA B a → aC a + n ≤ B → zIT (mkK st wy wg false) a → zRS (mkK st wy wg false) a used last shape dirty memory words → zRX a x →
    ∃ h' v' b' w1 w2 w3 w4 c r o2 r2, fX5_runDrawn_16 n1 n2 n3 n4 n5 n6 n7 n8 n9 n10 n11 N (nI nn) (nI d) (nI i) (nI st) (nI wy) (nI (zbn wg)) (nI (zbn false)) (nI (aC a)) (nI h) (nI v) (nI b) dirty last memory shape used words = some (w1, w2, w3, w4, c, nI h', nI v', nI b', r) ∧
      fX7_drawnUses_16 (nI st) cw (nI (zbn wg)) cv N (nI nn) (nI i) (nI wy) (nI v) (nI b) o (nI h) (nI d) od x = some (nI wy, nI v', nI b', o2, nI h', r2) := by
  intro n
  induction n with
  | zero =>
    intro N i d h v b a used last shape dirty memory words od x o e hN hd hI hC hT hR hX
    obtain ⟨N, rfl⟩ : ∃ k, N = k + 1 := ⟨N - 1, by omega⟩
    have c : nI nn ≤ nI i := nI_le (by omega) (by omega)
    rw [fX5_runDrawn_16, if_pos c, fX7_drawnUses_16, if_pos c]
    exact ⟨_, _, _, _, _, _, _, _, _, _, _, rfl, rfl⟩
  | succ n ih =>
    intro N i d h v b a used last shape dirty memory words od x o e hN hd hI hC hT hR hX
    obtain ⟨N, rfl⟩ : ∃ k, N = k + 1 := ⟨N - 1, by omega⟩
    have c : ¬ nI nn ≤ nI i := nI_ge (by omega) (by omega)
    have z1 := zdr_lt d
    have z2 := zdr_lt (zdr d)
    have z3 := zdr_lt (zdr (zdr d))
    have z4 := zdr_lt (zdr (zdr (zdr d)))
    have l1 : zdr d % 32 < 32 := Nat.mod_lt _ (by decide)
    have l2 : zdr (zdr d) % 4 < 4 := Nat.mod_lt _ (by decide)
    have l3 : zdr (zdr (zdr d)) % 8 < 8 := Nat.mod_lt _ (by decide)
    have l4 : zdr (zdr (zdr (zdr d))) % 300 < 300 := Nat.mod_lt _ (by decide)
    have key : ∀ (sp : Nat) (wo : Option Nat) (d' : Nat), sp < 256 → (∀ w, wo = some w → w < 65536) → d' < 65537 → ∀ (o1 : Int32) (od1 y : Nat → Int32), zRX (aUse (mkK st wy wg false) a sp wo v b).1 y →
        ∃ h' v' b' w1 w2 w3 w4 c r o2 r2, fX5_runDrawn_76 n1 n2 n3 n4 n5 n6 n7 n8 n9 n10 n11 (fX5_runDrawn_16 n1 n2 n3 n4 n5 n6 n7 n8 n9 n10 n11 N) (nI nn) (nI d') (nI i) (nI sp) (zov (-1) wo) (nI st) (nI wy) (nI (zbn wg)) (nI (zbn false)) (nI (aC a)) (nI h) (nI v) (nI b) dirty last memory shape used words = some (w1, w2, w3, w4, c, nI h', nI v', nI b', r) ∧
          fX7_drawnUses_73 (nI st) cw (nI (zbn wg)) cv (fX7_drawnUses_16 (nI st) cw (nI (zbn wg)) cv N) (nI nn) (nI i) (zbi (decide (0 < aU a (sp / 8)))) (nI wy) (nI (aUse (mkK st wy wg false) a sp wo v b).2.1) (nI (aUse (mkK st wy wg false) a sp wo v b).2.2) o1 (nI h) (nI d') od1 y = some (nI wy, nI v', nI b', o2, nI h', r2) := by
      intro sp wo d' hs hw hd' o1 od1 y hy
      obtain ⟨dd, la, m, sh, u, ws, f1, f2, f3, f4⟩ := pX3_use (v := v) (b := b) (h := h) hsw hs hI (by omega) hR hw
      have hT2 : zIT (mkK st wy wg false) (aUse (mkK st wy wg false) a sp wo v b).1 := aUse_T (mkK_ok hsw) hs hT
      obtain ⟨h', v', b', w1, w2, w3, w4, c, r, o2, r2, g1, g2⟩ := ih N (i + 1) d' (h + zbn (decide (0 < aU a (sp / 8)))) (aUse (mkK st wy wg false) a sp wo v b).2.1 (aUse (mkK st wy wg false) a sp wo v b).2.2 (aUse (mkK st wy wg false) a sp wo v b).1 u la sh dd m ws od1 y o1 (by omega) (by omega) hd' f3 (by rw [f4]; omega) hT2 f2 hy
      rw [f4] at g1
      unfold fX5_runDrawn_76 fX7_drawnUses_73
      rw [f1, Option.bind_some]
      simp only [zlet_e]
      rw [show nI i + 1 = nI (i + 1) from nI_1 _, show nI h + 0 = nI h from nI_add h 0, show nI h + 1 = nI (h + 1) from nI_1 _]
      refine ⟨h', v', b', w1, w2, w3, w4, c, r, o2, r2, g1, ?_⟩
      by_cases q : 0 < aU a (sp / 8)
      · rw [decide_eq_true q] at g2 ⊢
        rw [if_neg (show ¬ zbi true = 0 by decide)]
        exact g2
      · rw [decide_eq_false q] at g2 ⊢
        rw [if_pos (show zbi false = 0 from rfl)]
        exact g2
    rw [fX5_runDrawn_16, if_neg c, fX7_drawnUses_16, if_neg c, pX5_drawAfter hd, Option.bind_some, show (32 : Int32) = nI 32 from rfl, zrem_n (by omega) (by omega) (by omega), zlet_e, show nI (zdr d % 32) * 8 = nI (zdr d % 32 * 8) from pk_mul _ 8, pX5_drawAfter z1, Option.bind_some, show (4 : Int32) = nI 4 from rfl, zrem_n (by omega) (by omega) (by omega), pX7_draws hd (by omega) (by omega), Option.bind_some]
    rw [pX7_draws z1 (by omega) (by omega), Option.bind_some]
    by_cases q : zdr (zdr d) % 4 = 0
    · have q' : nI (zdr (zdr d) % 4) = 0 := by rw [q]; rfl
      obtain ⟨o2, od2, y, n1', n2'⟩ := pX7_puts (wg := wg) (sp := zdr d % 32 * 8 + zdr (zdr (zdr d)) % 8) (w := zdr (zdr (zdr (zdr d))) % 300) (v := v) (b := b) (o := o) (od := od) hsw (by omega) (by omega) hI (by omega) hX hT
      have k := key (zdr d % 32 * 8 + zdr (zdr (zdr d)) % 8) (some (zdr (zdr (zdr (zdr d))) % 300)) (zdr (zdr (zdr (zdr d)))) (by omega) (fun w hw => by cases hw; omega) z4 o2 od2 y n2'
      rw [show (zdr d % 32 * 8 + zdr (zdr (zdr d)) % 8) / 8 = zdr d % 32 by omega] at k
      rw [show (zdr d % 32 * 8 + zdr (zdr (zdr d)) % 8) / 8 = zdr d % 32 by omega, show (zdr d % 32 * 8 + zdr (zdr (zdr d)) % 8) % 8 = zdr (zdr (zdr d)) % 8 by omega] at n1'
      rw [if_pos q', if_pos q', pX5_drawAfter z2, Option.bind_some, show (8 : Int32) = nI 8 from rfl, zrem_n (by omega) (by omega) (by omega), zlet_e, nI_add, pX5_drawAfter z3, Option.bind_some, show (300 : Int32) = nI 300 from rfl, zrem_n (by omega) (by omega) (by omega), pX7_draws z2 (by omega) (by omega), Option.bind_some]
      rw [pX7_draws z3 (by omega) (by omega), Option.bind_some]
      rw [n1', Option.bind_some]
      exact k
    · have q' : ¬ nI (zdr (zdr d) % 4) = 0 := nI_ne0 (by omega) (by omega)
      obtain ⟨o2, od2, y, n1', n2', n3'⟩ := pX7_uses (wg := wg) (v := v) (b := b) (o := o) (od := od) hsw l1 hI (by omega) hX hT
      have hd8 : zdr d % 32 * 8 / 8 = zdr d % 32 := Nat.mul_div_cancel _ (by decide)
      have hu : ∀ l, aUse (mkK st wy wg false) a l none v b = (aTk (aMiss (mkK st wy wg false) a (l / 8) v b).1 (l / 8), (aMiss (mkK st wy wg false) a (l / 8) v b).2.1, (aMiss (mkK st wy wg false) a (l / 8) v b).2.2) := fun l => rfl
      have k := key (zdr d % 32 * 8) none (zdr (zdr d)) (by omega) (fun w hw => by cases hw) z2 o2 od2 y (by rw [hu, hd8]; exact n2')
      rw [hu, hd8] at k
      rw [if_neg q', if_neg q', n1', Option.bind_some]
      exact k
end DRAW
theorem qDr (a1 a2 : Int32) : (fX5_isDrawable a1 a2 = some 0 ∧ fX7_refusesDraw a1 a2 = some 2) ∨ ∃ d n, d < 65537 ∧ n ≤ 200 ∧ a1 = nI d ∧ a2 = nI n ∧ fX5_isDrawable a1 a2 = some 1 ∧ fX7_refusesDraw a1 a2 = some 0 := by
  unfold fX5_isDrawable fX7_refusesDraw fX7_in
  rcases pk_ix a1 (n := 65537) (by omega) with h | h | ⟨d, hd, e⟩
  · rw [if_pos h, if_pos h, Option.bind_some, if_pos rfl]; exact Or.inl ⟨rfl, rfl⟩
  · by_cases c : a1 < 0
    · rw [if_pos c, if_pos c, Option.bind_some, if_pos rfl]; exact Or.inl ⟨rfl, rfl⟩
    · have h' : (65537 : Int32) ≤ a1 := h
      have h7 : (65536 : Int32) < a1 := by
        rw [i_le] at h'
        rw [i_lt]
        have e1 : (65536 : Int32).toInt = 65536 := rfl
        have e2 : (65537 : Int32).toInt = 65537 := rfl
        omega
      rw [if_neg c, if_neg c, if_pos h', if_pos h7, Option.bind_some, if_pos rfl]; exact Or.inl ⟨rfl, rfl⟩
  · have c0 : ¬ a1 < 0 := by rw [e]; exact nI_pos (by omega)
    have c1 : ¬ (65537 : Int32) ≤ a1 := by rw [e]; exact nI_ge (a := d) (b := 65537) hd (by omega)
    have c2 : ¬ (65536 : Int32) < a1 := by rw [e]; exact nI_nlt (a := 65536) (b := d) (by omega) (by omega)
    rw [if_neg c0, if_neg c0, if_neg c1, if_neg c2, Option.bind_some, if_neg (show ¬ (1 : Int32) = 0 by decide)]
    by_cases c : a2 < 0
    · rw [if_pos c, Option.bind_some, if_pos rfl]; exact Or.inl ⟨rfl, rfl⟩
    · rw [if_neg c]
      by_cases c3 : 200 < a2
      · rw [if_pos c3, Option.bind_some, if_pos rfl]; exact Or.inl ⟨rfl, rfl⟩
      · rw [if_neg c3, Option.bind_some, if_neg (show ¬ (1 : Int32) = 0 by decide)]
        obtain ⟨j, hj, e2⟩ := nI_of c
        refine Or.inr ⟨d, j, hd, ?_, e, e2, rfl, rfl⟩
        rw [e2, show (200 : Int32) = nI 200 from rfl, nI_ltI (by omega) hj] at c3
        omega
section DRAWM
variable {st wy : Nat} {wg : Bool} {B : Nat} {a : zA} {used last shape dirty memory words v0 x od : Nat → Int32} {rf th tr wh s1 s2 s3 s4 s5 s6 u1 u2 u3 u4 u5 u6 u7 u8 : Int32} {t1 t2 t3 t4 t5 t6 : Nat → Int32}
theorem drawn_both (hsw : zSW st wy) (hI : zIA B a) (hC : aC a + 200 ≤ B) (hT : zIT (mkK st wy wg false) a) (hR : zRS (mkK st wy wg false) a used last shape dirty memory words) (hX : zRX a v0) {d n : Nat} (hd : d < 65537) (hn : n ≤ 200) :
    ∃ h' v' b' w1 w2 w3 w4 c r o2 r2, fX5_runDrawn (nI st) (nI wy) (nI (zbn wg)) (nI (zbn false)) (nI (aC a)) u1 u2 u3 u4 u5 u6 u7 u8 dirty last memory shape used words t1 t2 t3 t4 t5 t6 (nI d) (nI n) = some (w1, w2, w3, w4, c, nI h', nI v', nI b', r) ∧ fX7_drawnUses s1 s2 s3 s4 s5 s6 (nI st) (nI wy) (nI (zbn wg)) od v0 x (nI d) (nI n) = some (nI wy, nI v', nI b', o2, nI h', r2) := by
  obtain ⟨y, f1, f2⟩ := pX7_works (s1 := s1) (s2 := s2) (s3 := s3) (cw := nI wy) (x := x) hX
  obtain ⟨dd, la, m, sh, u, ws, g1, g2⟩ := pX3_copyOf (st := nI st) (wy := nI wy) (cl := nI (aC a)) (wg := wg) (pl := false) (s1 := u1) (s2 := u2) (s3 := u3) (s4 := u4) (s5 := u5) (s6 := u6) (s7 := u7) (s8 := u8) (used' := t5) (last' := t2) (shape' := t4) (dirty' := t1) (memory' := t3) (words' := t6) hR
  unfold fX5_runDrawn fX7_drawnUses
  rw [g1, Option.bind_some, f1, Option.bind_some]
  exact drawn_loop (wg := wg) hsw hn n zF 0 d 0 0 0 a u la sh dd m ws od y s4 (by omega) (zF_gt (by omega)) hd hI (by omega) hT g2 f2
theorem m_drawnHits (hsw : zSW st wy) (hI : zIA B a) (hC : aC a + 200 ≤ B) (hT : zIT (mkK st wy wg false) a) (hR : zRS (mkK st wy wg false) a used last shape dirty memory words) (hX : zRX a v0) (a1 a2 : Int32) :
    ∃ v t r r2, fX5_drawnHits 1 rf (nI st) (nI wy) (nI (zbn wg)) (nI (zbn false)) (nI (aC a)) u1 u2 u3 u4 u5 u6 u7 u8 dirty last memory shape used words t1 t2 t3 t4 t5 t6 a1 a2 = some (v, t, r) ∧ fX7_drawnHits th tr wh s1 s2 s3 s4 s5 s6 (nI st) (nI wy) (nI (zbn wg)) od v0 x a1 a2 = some (v, 0, t, -1, r2) := by
  unfold fX5_drawnHits fX7_drawnHits
  rw [if_neg (show ¬ (1 : Int32) = 0 by decide)]
  rcases qDr a1 a2 with ⟨h1, h2⟩ | ⟨d, n, hd, hn, e1, e2, h1, h2⟩
  · rw [h1, h2, Option.bind_some, Option.bind_some, if_pos rfl, if_neg (show ¬ (2 : Int32) ≤ 0 by decide)]
    exact ⟨_, _, _, _, rfl, rfl⟩
  · obtain ⟨h', v', b', w1, w2, w3, w4, c, r, o2, r2, k1, k2⟩ := drawn_both (s1 := s1) (s2 := s2) (s3 := s3) (s4 := s4) (s5 := s5) (s6 := s6) (od := od) (x := x) (u1 := u1) (u2 := u2) (u3 := u3) (u4 := u4) (u5 := u5) (u6 := u6) (u7 := u7) (u8 := u8) (t1 := t1) (t2 := t2) (t3 := t3) (t4 := t4) (t5 := t5) (t6 := t6) hsw hI hC hT hR hX hd hn
    rw [h1, h2, Option.bind_some, Option.bind_some, if_neg (show ¬ (1 : Int32) = 0 by decide), if_pos (show (0 : Int32) ≤ 0 by decide), e1, e2, k1, Option.bind_some, k2, Option.bind_some]
    exact ⟨_, _, _, _, rfl, rfl⟩
theorem m_drawnBacks (hsw : zSW st wy) (hI : zIA B a) (hC : aC a + 200 ≤ B) (hT : zIT (mkK st wy wg false) a) (hR : zRS (mkK st wy wg false) a used last shape dirty memory words) (hX : zRX a v0) (a1 a2 : Int32) :
    ∃ v t r r2, fX5_drawnBacks 1 rf (nI st) (nI wy) (nI (zbn wg)) (nI (zbn false)) (nI (aC a)) u1 u2 u3 u4 u5 u6 u7 u8 dirty last memory shape used words t1 t2 t3 t4 t5 t6 a1 a2 = some (v, t, r) ∧ fX7_drawnBacks th tr wh s1 s2 s3 s4 s5 s6 (nI st) (nI wy) (nI (zbn wg)) od v0 x a1 a2 = some (v, 0, t, -1, r2) := by
  unfold fX5_drawnBacks fX7_drawnBacks
  rw [if_neg (show ¬ (1 : Int32) = 0 by decide)]
  rcases qDr a1 a2 with ⟨h1, h2⟩ | ⟨d, n, hd, hn, e1, e2, h1, h2⟩
  · rw [h1, h2, Option.bind_some, Option.bind_some, if_pos rfl, if_neg (show ¬ (2 : Int32) ≤ 0 by decide)]
    exact ⟨_, _, _, _, rfl, rfl⟩
  · obtain ⟨h', v', b', w1, w2, w3, w4, c, r, o2, r2, k1, k2⟩ := drawn_both (s1 := s1) (s2 := s2) (s3 := s3) (s4 := s4) (s5 := s5) (s6 := s6) (od := od) (x := x) (u1 := u1) (u2 := u2) (u3 := u3) (u4 := u4) (u5 := u5) (u6 := u6) (u7 := u7) (u8 := u8) (t1 := t1) (t2 := t2) (t3 := t3) (t4 := t4) (t5 := t5) (t6 := t6) hsw hI hC hT hR hX hd hn
    rw [h1, h2, Option.bind_some, Option.bind_some, if_neg (show ¬ (1 : Int32) = 0 by decide), if_pos (show (0 : Int32) ≤ 0 by decide), e1, e2, k1, Option.bind_some, k2, Option.bind_some]
    exact ⟨_, _, _, _, rfl, rfl⟩
end DRAWM
