/-! ===== feed, size, led, both sides ===== -/
/-- a byte of a number -/
def zb4 (v : Int32) (i : Nat) : Int32 := ((v >>> (nI (24 - 8 * i) &&& 31)).toInt8).toInt32
theorem zb4_b (v : Int32) (i : Nat) : ∃ z : Int32, zb4 v i = z.toInt8.toInt32 := ⟨_, rfl⟩
theorem pX5_tapeFour {t : Nat} (ht : t + 4 ≤ 1200) (tp : Nat → Int32) (v : Int32) : ∃ tp', fX5_tapeFour (nI t) tp v = some (nI (t + 4), tp') ∧ ∀ j, tp' j = if t ≤ j ∧ j < t + 4 then zb4 v (j - t) else tp j := by
  have step : ∀ (N i : Nat) (tp : Nat → Int32), i < 4 → fX5_tapeFour_3 (N + 1) v (nI (24 - 8 * i)) (nI (t + i)) tp = fX5_tapeFour_3 N v (nI (24 - 8 * i) + (-8)) (nI (t + (i + 1))) (upd tp (t + i) (zb4 v i)) := by
    intro N i tp hi
    rw [fX5_tapeFour_3, if_neg (nI_pos (by omega)), if_neg (show ¬ (1200 : Int32) ≤ nI (t + i) from nI_ge (a := t + i) (b := 1200) (by omega) (by omega))]
    simp only [zlet_e]
    rw [zast_n (by omega) (by omega), pk_vb, show nI (t + i) + 1 = nI (t + i + 1) from nI_1 _, show t + i + 1 = t + (i + 1) by omega]
    rfl
  obtain ⟨N, hz, hN⟩ := zF_suc
  obtain ⟨N1, rfl⟩ : ∃ k, N = k + 1 := ⟨N - 1, by omega⟩
  obtain ⟨N2, rfl⟩ : ∃ k, N1 = k + 1 := ⟨N1 - 1, by omega⟩
  obtain ⟨N3, rfl⟩ : ∃ k, N2 = k + 1 := ⟨N2 - 1, by omega⟩
  obtain ⟨N4, rfl⟩ : ∃ k, N3 = k + 1 := ⟨N3 - 1, by omega⟩
  unfold fX5_tapeFour
  rw [hz]
  have s0 := step (N4 + 1 + 1 + 1 + 1) 0 tp (by omega)
  have s1 := step (N4 + 1 + 1 + 1) 1 (upd tp (t + 0) (zb4 v 0)) (by omega)
  have s2 := step (N4 + 1 + 1) 2 (upd (upd tp (t + 0) (zb4 v 0)) (t + 1) (zb4 v 1)) (by omega)
  have s3 := step (N4 + 1) 3 (upd (upd (upd tp (t + 0) (zb4 v 0)) (t + 1) (zb4 v 1)) (t + 2) (zb4 v 2)) (by omega)
  rw [show nI (24 - 8 * 0) = (24 : Int32) from rfl, show (24 : Int32) + (-8) = nI (24 - 8 * 1) from rfl, show t + (0 + 1) = t + 1 from rfl] at s0
  rw [show nI (24 - 8 * 1) + (-8) = nI (24 - 8 * 2) from rfl, show t + (1 + 1) = t + 2 from rfl] at s1
  rw [show nI (24 - 8 * 2) + (-8) = nI (24 - 8 * 3) from rfl, show t + (2 + 1) = t + 3 from rfl] at s2
  rw [show nI (24 - 8 * 3) + (-8) = (-8 : Int32) from rfl, show t + (3 + 1) = t + 4 from rfl] at s3
  rw [show nI t = nI (t + 0) from rfl, s0, s1, s2, s3, fX5_tapeFour_3, if_pos (show (-8 : Int32) < 0 by decide)]
  refine ⟨_, rfl, fun j => ?_⟩
  by_cases c3 : j = t + 3
  · rw [c3, pk_us, if_pos (by omega), show t + 3 - t = 3 by omega]
  · rw [pk_un c3]
    by_cases c2 : j = t + 2
    · rw [c2, pk_us, if_pos (by omega), show t + 2 - t = 2 by omega]
    · rw [pk_un c2]
      by_cases c1 : j = t + 1
      · rw [c1, pk_us, if_pos (by omega), show t + 1 - t = 1 by omega]
      · rw [pk_un c1]
        by_cases c0 : j = t + 0
        · rw [c0, pk_us, if_pos (by omega), show t + 0 - t = 0 by omega]
        · rw [pk_un c0, if_neg (by omega)]
def zf5 (a b c d e : Int32) (k : Nat) : Int32 := if k < 4 then a else if k < 8 then b else if k < 12 then c else if k < 16 then d else e
theorem pX7_feed_loop {t : Nat} (ht : t + 20 ≤ 1200) {a b c d e th : Int32} (q0 : Nat → Int32) : ∀ (m N i : Nat) (tq : Nat → Int32), i + m = 20 → m < N → (∀ j, tq j = if t ≤ j ∧ j < t + i then zb4 (zf5 a b c d e (j - t)) ((j - t) % 4) else q0 j) → ∃ tq', fX7_feed_23 N a b c d e (nI i) th (nI (t + i)) tq = some (nI (t + 20), th, nI (t + 20), tq') ∧ ∀ j, tq' j = if t ≤ j ∧ j < t + 20 then zb4 (zf5 a b c d e (j - t)) ((j - t) % 4) else q0 j := by
  intro m
  induction m with
  | zero =>
    intro N i tq h hN hq
    obtain ⟨N, rfl⟩ : ∃ k, N = k + 1 := ⟨N - 1, by omega⟩
    have : i = 20 := by omega
    rw [fX7_feed_23, this, if_pos (show (20 : Int32) ≤ nI 20 from Int32.le_refl _)]
    rw [this] at hq
    exact ⟨tq, rfl, hq⟩
  | succ m ih =>
    intro N i tq h hN hq
    obtain ⟨N, rfl⟩ : ∃ k, N = k + 1 := ⟨N - 1, by omega⟩
    have hm4 : i % 4 < 4 := Nat.mod_lt _ (by decide)
    have key : ∃ tq', fX7_feed_76 (fX7_feed_23 N) a b c d e (nI i) (zf5 a b c d e i) th (nI (t + i)) tq = some (nI (t + 20), th, nI (t + 20), tq') ∧ ∀ j, tq' j = if t ≤ j ∧ j < t + 20 then zb4 (zf5 a b c d e (j - t)) ((j - t) % 4) else q0 j := by
      unfold fX7_feed_76
      rw [show (4 : Int32) = nI 4 from rfl, zrem_n (by omega) (by omega) (by omega)]
      simp only [zlet_e]
      rw [show (8 : Int32) * nI (i % 4) = nI (8 * (i % 4)) from pk_mul 8 _, show (24 : Int32) - nI (8 * (i % 4)) = nI (24 - 8 * (i % 4)) from pk_sub (a := 24) (b := 8 * (i % 4)) (by omega), zast_n (by omega) (by omega), pk_vb, show nI (t + i) + 1 = nI (t + i + 1) from nI_1 _, show nI i + 1 = nI (i + 1) from nI_1 _, show t + i + 1 = t + (i + 1) by omega]
      refine ih N (i + 1) _ (by omega) (by omega) (fun j => ?_)
      by_cases q : j = t + i
      · rw [q, pk_us, if_pos (by omega), show t + i - t = i by omega]
        rfl
      · rw [pk_un q, hq j]
        by_cases q2 : t ≤ j ∧ j < t + i
        · rw [if_pos q2, if_pos (by omega)]
        · rw [if_neg q2, if_neg (by omega)]
    rw [fX7_feed_23, if_neg (show ¬ (20 : Int32) ≤ nI i from nI_ge (a := i) (b := 20) (by omega) (by omega))]
    unfold zf5 at key
    by_cases c4 : i < 4
    · rw [if_neg (show ¬ (4 : Int32) ≤ nI i from nI_ge (a := i) (b := 4) c4 (by omega))]
      rw [if_pos c4] at key
      exact key
    · rw [if_pos (show (4 : Int32) ≤ nI i from nI_le (a := 4) (b := i) (by omega) (by omega))]
      rw [if_neg c4] at key
      by_cases c8 : i < 8
      · rw [if_neg (show ¬ (8 : Int32) ≤ nI i from nI_ge (a := i) (b := 8) c8 (by omega))]
        rw [if_pos c8] at key
        exact key
      · rw [if_pos (show (8 : Int32) ≤ nI i from nI_le (a := 8) (b := i) (by omega) (by omega))]
        rw [if_neg c8] at key
        by_cases c12 : i < 12
        · rw [if_neg (show ¬ (12 : Int32) ≤ nI i from nI_ge (a := i) (b := 12) c12 (by omega))]
          rw [if_pos c12] at key
          exact key
        · rw [if_pos (show (12 : Int32) ≤ nI i from nI_le (a := 12) (b := i) (by omega) (by omega))]
          rw [if_neg c12] at key
          by_cases c16 : i < 16
          · rw [if_neg (show ¬ (16 : Int32) ≤ nI i from nI_ge (a := i) (b := 16) c16 (by omega))]
            rw [if_pos c16] at key
            exact key
          · rw [if_pos (show (16 : Int32) ≤ nI i from nI_le (a := 16) (b := i) (by omega) (by omega))]
            rw [if_neg c16] at key
            exact key
theorem m_feed {t : Nat} {tp tq : Nat → Int32} (h : zTape t tp tq) {th : Int32} (a b c d e : Int32) : ∃ v t' tp' tq', fX5_feed (nI t) tp a b c d e = some (v, nI t', tp') ∧ fX7_feed th (nI t) tq a b c d e = some (v, 0, nI t', tq') ∧ zTape t' tp' tq' := by
  obtain ⟨h1, h2, h3⟩ := h
  unfold fX5_feed fX7_feed
  rw [zlet_e, show nI t + 20 = nI (t + 20) from nI_add t 20]
  by_cases q : t ≤ 1180
  · rw [if_pos (show nI t ≤ 1180 from nI_le (a := t) (b := 1180) q (by omega)), if_pos (show nI (t + 20) ≤ 1200 from nI_le (a := t + 20) (b := 1200) (by omega) (by omega))]
    obtain ⟨p1, e1, f1⟩ := pX5_tapeFour (t := t) (by omega) tp a
    obtain ⟨p2, e2, f2⟩ := pX5_tapeFour (t := t + 4) (by omega) p1 b
    obtain ⟨p3, e3, f3⟩ := pX5_tapeFour (t := t + 4 + 4) (by omega) p2 c
    obtain ⟨p4, e4, f4⟩ := pX5_tapeFour (t := t + 4 + 4 + 4) (by omega) p3 d
    obtain ⟨p5, e5, f5⟩ := pX5_tapeFour (t := t + 4 + 4 + 4 + 4) (by omega) p4 e
    obtain ⟨q1, g1, g2⟩ := pX7_feed_loop (t := t) (a := a) (b := b) (c := c) (d := d) (e := e) (th := 0) (by omega) tq 20 zF 0 tq (by omega) (zF_gt (by omega)) (fun j => by rw [if_neg (by omega)])
    rw [show nI 0 = (0 : Int32) from rfl, show nI (t + 0) = nI t from rfl] at g1
    rw [e1, Option.bind_some]
    rw [e2, Option.bind_some]
    rw [e3, Option.bind_some]
    rw [e4, Option.bind_some]
    rw [e5, Option.bind_some, g1]
    refine ⟨nI (t + 20), t + 20, p5, q1, rfl, rfl, by omega, by omega, fun j hj => ?_⟩
    have hp : p5 j = if t ≤ j ∧ j < t + 20 then zb4 (zf5 a b c d e (j - t)) ((j - t) % 4) else tp j := by
      rw [f5 j]
      by_cases c5 : t + 4 + 4 + 4 + 4 ≤ j ∧ j < t + 4 + 4 + 4 + 4 + 4
      · rw [if_pos c5, if_pos (by omega)]
        unfold zf5
        rw [if_neg (by omega), if_neg (by omega), if_neg (by omega), if_neg (by omega)]
        congr 1; omega
      · rw [if_neg c5, f4 j]
        by_cases c4 : t + 4 + 4 + 4 ≤ j ∧ j < t + 4 + 4 + 4 + 4
        · rw [if_pos c4, if_pos (by omega)]
          unfold zf5
          rw [if_neg (by omega), if_neg (by omega), if_neg (by omega), if_pos (by omega)]
          congr 1; omega
        · rw [if_neg c4, f3 j]
          by_cases c3 : t + 4 + 4 ≤ j ∧ j < t + 4 + 4 + 4
          · rw [if_pos c3, if_pos (by omega)]
            unfold zf5
            rw [if_neg (by omega), if_neg (by omega), if_pos (by omega)]
            congr 1; omega
          · rw [if_neg c3, f2 j]
            by_cases c2 : t + 4 ≤ j ∧ j < t + 4 + 4
            · rw [if_pos c2, if_pos (by omega)]
              unfold zf5
              rw [if_neg (by omega), if_pos (by omega)]
              congr 1; omega
            · rw [if_neg c2, f1 j]
              by_cases c1 : t ≤ j ∧ j < t + 4
              · rw [if_pos c1, if_pos (by omega)]
                unfold zf5
                rw [if_pos (by omega)]
                congr 1; omega
              · rw [if_neg c1, if_neg (by omega)]
    rw [hp, g2 j]
    by_cases cj : t ≤ j ∧ j < t + 20
    · rw [if_pos cj, if_pos cj]
      exact ⟨zb4_b _ _, rfl⟩
    · rw [if_neg cj, if_neg cj]
      exact h3 j (by omega)
  · rw [if_neg (show ¬ nI t ≤ 1180 from nI_ge (a := 1180) (b := t) (by omega) (by omega)), if_neg (show ¬ nI (t + 20) ≤ 1200 from nI_ge (a := 1200) (b := t + 20) (by omega) (by omega))]
    exact ⟨-1, t, tp, tq, rfl, rfl, h1, h2, h3⟩
/-- dirty lines -/
def zDl (a : zA) : List Nat := zrun (fun l => decide (aD a l = 1)) 0 32
theorem pX7_led_loop {B : Nat} {a : zA} {v0 : Nat → Int32} {b1 th : Int32} (hI : zIA B a) (hX : zRX a v0) : ∀ (m N i c : Nat), i + m = 32 → m < N → fX7_led_9 v0 N b1 (nI c) (nI i) th = (match zfa b1 c (zrun (fun l => decide (aD a l = 1)) i m) with | none => some (0, 1) | some l => some (nI l, th)) := by
  intro m
  induction m with
  | zero =>
    intro N i c h hN
    obtain ⟨N, rfl⟩ : ∃ k, N = k + 1 := ⟨N - 1, by omega⟩
    rw [fX7_led_9, if_pos (n32 (by omega) (by omega))]
    rfl
  | succ m ih =>
    intro N i c h hN
    obtain ⟨N, rfl⟩ : ∃ k, N = k + 1 := ⟨N - 1, by omega⟩
    have hi : i < 32 := by omega
    have hd := (hI.1 i hi).1
    rw [fX7_led_9, if_neg (n32' hi)]
    simp only [zlet_e]
    rw [show (576 : Int32) + nI i = nI (576 + i) from nI_add 576 i, zald_n (by omega) (by omega), (hX.1 i hi).2.1, show nI i + 1 = nI (i + 1) from nI_1 _, show nI c + 1 = nI (c + 1) from nI_1 _]
    by_cases q : aD a i = 1
    · rw [zrun_t (f := fun l => decide (aD a l = 1)) (decide_eq_true q), if_neg (show ¬ nI (aD a i) = 0 by rw [q]; decide)]
      unfold zfa
      by_cases q2 : nI c = b1
      · rw [if_pos q2, if_pos q2]
      · rw [if_neg q2, if_neg q2]
        exact ih N (i + 1) (c + 1) (by omega) (by omega)
    · rw [zrun_f (f := fun l => decide (aD a l = 1)) (decide_eq_false q), if_pos (show nI (aD a i) = 0 by rw [show aD a i = 0 by omega]; rfl)]
      exact ih N (i + 1) c (by omega) (by omega)
theorem pX7_led {B : Nat} {a : zA} {v0 : Nat → Int32} {th : Int32} (hI : zIA B a) (hX : zRX a v0) (b1 : Int32) : fX7_led th v0 b1 = (match zfa b1 0 (zDl a) with | none => some (0, 1) | some l => some (nI l, 0)) := pX7_led_loop hI hX 32 zF 0 0 (by omega) (zF_gt (by omega))
theorem m_size {tp im kp cs cw cg cl cst cu cse ac ims ms mw ml mst mu msw mg th : Int32} (h1 : cs = ms) (h2 : cw = mw) (h3 : cg = mg) (h4 : cl = ml) (h5 : cst = mst) (h6 : cu = mu) (h7 : cse = msw) (h8 : kp = ac) (h9 : im = ims) (a1 : Int32) : ∃ v, fX5_size tp im kp cs cw cg cl cst cu cse a1 = some v ∧ fX7_size th tp ac ims ms mw ml mst mu msw mg a1 = some (v, 0) := by
  subst h1 h2 h3 h4 h5 h6 h7 h8 h9
  unfold fX5_size fX7_size fX7_in
  by_cases c9 : a1 = 9
  · subst c9
    exact ⟨tp, rfl, by rw [if_pos rfl]⟩
  · rw [if_neg c9, if_neg c9]
    rcases pk_ix a1 (n := 9) (by omega) with h | h | ⟨k, hk, e⟩
    · rw [if_pos h, Option.bind_some, if_pos rfl]
      have hne : ∀ c : Nat, c < 9 → ¬ a1 = nI c := fun c hc z => by rw [z] at h; exact nI_pos (by omega) h
      rw [if_neg (show ¬ a1 = 0 from hne 0 (by omega)), if_neg (show ¬ a1 = 1 from hne 1 (by omega)), if_neg (show ¬ a1 = 2 from hne 2 (by omega)), if_neg (show ¬ a1 = 3 from hne 3 (by omega)), if_neg (show ¬ a1 = 4 from hne 4 (by omega)), if_neg (show ¬ a1 = 5 from hne 5 (by omega)), if_neg (show ¬ a1 = 6 from hne 6 (by omega)), if_neg (show ¬ a1 = 7 from hne 7 (by omega)), if_neg (show ¬ a1 = 8 from hne 8 (by omega))]
      exact ⟨_, rfl, rfl⟩
    · have h' : (9 : Int32) ≤ a1 := h
      rw [i_le] at h'
      have e9 : (9 : Int32).toInt = 9 := rfl
      have n0 : ¬ a1 < 0 := fun z => by rw [i_lt] at z; have : (0 : Int32).toInt = 0 := rfl; omega
      have n8' : (8 : Int32) < a1 := by rw [i_lt]; have : (8 : Int32).toInt = 8 := rfl; omega
      have hne : ∀ c : Nat, c < 9 → ¬ a1 = nI c := fun c hc z => by rw [z, nI_toInt (by omega)] at h'; omega
      rw [if_neg n0, if_pos n8', Option.bind_some, if_pos rfl]
      rw [if_neg (show ¬ a1 = 0 from hne 0 (by omega)), if_neg (show ¬ a1 = 1 from hne 1 (by omega)), if_neg (show ¬ a1 = 2 from hne 2 (by omega)), if_neg (show ¬ a1 = 3 from hne 3 (by omega)), if_neg (show ¬ a1 = 4 from hne 4 (by omega)), if_neg (show ¬ a1 = 5 from hne 5 (by omega)), if_neg (show ¬ a1 = 6 from hne 6 (by omega)), if_neg (show ¬ a1 = 7 from hne 7 (by omega)), if_neg (show ¬ a1 = 8 from hne 8 (by omega))]
      exact ⟨_, rfl, rfl⟩
    · have i1 : (if a1 < 0 then some (0 : Int32) else if 8 < a1 then some 0 else some 1) = some 1 := by
        rw [e, if_neg (nI_pos (by omega)), if_neg (show ¬ (8 : Int32) < nI k from nI_nlt (a := 8) (b := k) (by omega) (by omega))]
      rw [i1, Option.bind_some, if_neg (show ¬ (1 : Int32) = 0 by decide), e]
      rcases (show k = 0 ∨ k = 1 ∨ k = 2 ∨ k = 3 ∨ k = 4 ∨ k = 5 ∨ k = 6 ∨ k = 7 ∨ k = 8 by omega) with rfl | rfl | rfl | rfl | rfl | rfl | rfl | rfl | rfl
      · exact ⟨_, rfl, rfl⟩
      · exact ⟨_, rfl, rfl⟩
      · by_cases q : cg = 0
        · exact ⟨0, by rw [if_neg (by decide), if_neg (by decide), if_pos (show nI 2 = 2 from rfl), if_pos q], by rw [if_neg (by decide), if_neg (by decide), if_pos (show nI 2 = 2 from rfl), if_pos q]⟩
        · exact ⟨1, by rw [if_neg (by decide), if_neg (by decide), if_pos (show nI 2 = 2 from rfl), if_neg q], by rw [if_neg (by decide), if_neg (by decide), if_pos (show nI 2 = 2 from rfl), if_neg q]⟩
      · exact ⟨_, rfl, rfl⟩
      · exact ⟨_, rfl, rfl⟩
      · exact ⟨_, rfl, rfl⟩
      · exact ⟨_, rfl, rfl⟩
      · exact ⟨_, rfl, rfl⟩
      · exact ⟨_, rfl, rfl⟩
