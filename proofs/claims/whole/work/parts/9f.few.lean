/-! ===== feed, fault, where, trouble, size; undo, image, back without a cache ===== -/
section FEW
variable {j e t : Nat} {s : Nat → Int32} {a : Nat → Nat → Int32} {g : Nat → Option Nat} {ms : Nat → Int32} {ma : Nat → Nat → Int32} {rs : Nat → Nat → Nat} {ss : Nat → Nat → Int32} {ca : Nat → Nat → Nat → Int32}
theorem b_feed (h : zB0 t s a ms ma) (a1 a2 a3 a4 a5 : Int32) : ∃ (x : Int32 × Int32 × (Nat → Int32)) (y : Int32 × Int32 × Int32 × (Nat → Int32)) (t' : Nat), fX5_feed (s 0) (a 1) a1 a2 a3 a4 a5 = some x ∧ fX7_feed (ms 0) (ms 3) (ma 1) a1 a2 a3 a4 a5 = some y ∧ x.1 = y.1 ∧ zB0 t' (zu s 0 x.2.1) (zu a 1 x.2.2) (zu (zu ms 0 y.2.1) 3 y.2.2.1) (zu ma 1 y.2.2.2) := by
  obtain ⟨h0, h1, h2, h3⟩ := h
  obtain ⟨v, t', tp', tq', e1, e2, hT⟩ := m_feed (th := ms 0) h0 a1 a2 a3 a4 a5
  rw [← h1] at e1
  rw [← h2] at e2
  exact ⟨_, _, t', e1, e2, rfl, hT, rfl, rfl, h3⟩
theorem r_feed (H : zGC j e s a g ms ma rs ss ca) (a1 a2 a3 a4 a5 : Int32) : ∃ (x : Int32 × Int32 × (Nat → Int32)) (y : Int32 × Int32 × Int32 × (Nat → Int32)), fX5_feed (s 0) (a 1) a1 a2 a3 a4 a5 = some x ∧ fX7_feed (ms 0) (ms 3) (ma 1) a1 a2 a3 a4 a5 = some y ∧ x.1 = y.1 ∧ zGC j e (zu s 0 x.2.1) (zu a 1 x.2.2) g (zu (zu ms 0 y.2.1) 3 y.2.2.1) (zu ma 1 y.2.2.2) rs ss ca := by
  obtain ⟨h1, hg, t, nc, p, nl, r, A, I, hnc, h0, hP, hN, hi⟩ := H
  obtain ⟨x, y, t', e1, e2, e3, h0'⟩ := b_feed h0 a1 a2 a3 a4 a5
  exact ⟨x, y, e1, e2, e3, h1, hg, t', nc, p, nl, r, A, I, hnc, h0', hP, hN, hi⟩
theorem rn_feed (H : zGN s a g ms ma rs) (a1 a2 a3 a4 a5 : Int32) : ∃ (x : Int32 × Int32 × (Nat → Int32)) (y : Int32 × Int32 × Int32 × (Nat → Int32)), fX5_feed (s 0) (a 1) a1 a2 a3 a4 a5 = some x ∧ fX7_feed (ms 0) (ms 3) (ma 1) a1 a2 a3 a4 a5 = some y ∧ x.1 = y.1 ∧ zGN (zu s 0 x.2.1) (zu a 1 x.2.2) g (zu (zu ms 0 y.2.1) 3 y.2.2.1) (zu ma 1 y.2.2.2) rs := by
  obtain ⟨h1, hg, ⟨t, h0⟩, h2⟩ := H
  obtain ⟨x, y, t', e1, e2, e3, h0'⟩ := b_feed h0 a1 a2 a3 a4 a5
  exact ⟨x, y, e1, e2, e3, h1, hg, ⟨t', h0'⟩, h2⟩
theorem b_fault (h : zB0 t s a ms ma) : ∃ (x : Int32) (y : Int32 × Int32), fX5_fault (s 27) = some x ∧ fX7_fault (ms 0) (ms 9) = some y ∧ x = y.1 := ⟨_, _, rfl, rfl, h.2.2.2.2.2.2.symm⟩
theorem b_trouble (h : zB0 t s a ms ma) : ∃ (x : Int32) (y : Int32 × Int32), fX5_trouble (s 3) = some x ∧ fX7_trouble (ms 0) (ms 1) = some y ∧ x = y.1 := ⟨_, _, rfl, rfl, h.2.2.2.1.symm⟩
theorem b_where (h : zB0 t s a ms ma) : ∃ (x : Int32) (y : Int32 × Int32), fX5_where (s 3) (s 28) = some x ∧ fX7_where (ms 0) (ms 2) = some y ∧ x = y.1 := by
  obtain ⟨-, -, -, -, h1, h2, -⟩ := h
  unfold fX5_where fX7_where
  by_cases c : s 3 = 4
  · rw [if_pos c]
    exact ⟨_, _, rfl, rfl, (h1 c).symm⟩
  · rw [if_neg c]
    exact ⟨_, _, rfl, rfl, (h2 c).symm⟩
theorem r_fault (H : zGC j e s a g ms ma rs ss ca) : ∃ (x : Int32) (y : Int32 × Int32), fX5_fault (s 27) = some x ∧ fX7_fault (ms 0) (ms 9) = some y ∧ x = y.1 ∧ zGC j e s a g (zu ms 0 y.2) ma rs ss ca := by
  obtain ⟨h1, hg, t, nc, p, nl, r, A, I, hnc, h0, h⟩ := H
  obtain ⟨x, y, e1, e2, e3⟩ := b_fault h0
  exact ⟨x, y, e1, e2, e3, h1, hg, t, nc, p, nl, r, A, I, hnc, h0, h⟩
theorem r_where (H : zGC j e s a g ms ma rs ss ca) : ∃ (x : Int32) (y : Int32 × Int32), fX5_where (s 3) (s 28) = some x ∧ fX7_where (ms 0) (ms 2) = some y ∧ x = y.1 ∧ zGC j e s a g (zu ms 0 y.2) ma rs ss ca := by
  obtain ⟨h1, hg, t, nc, p, nl, r, A, I, hnc, h0, h⟩ := H
  obtain ⟨x, y, e1, e2, e3⟩ := b_where h0
  exact ⟨x, y, e1, e2, e3, h1, hg, t, nc, p, nl, r, A, I, hnc, h0, h⟩
theorem r_trouble (H : zGC j e s a g ms ma rs ss ca) : ∃ (x : Int32) (y : Int32 × Int32), fX5_trouble (s 3) = some x ∧ fX7_trouble (ms 0) (ms 1) = some y ∧ x = y.1 ∧ zGC j e s a g (zu ms 0 y.2) ma rs ss ca := by
  obtain ⟨h1, hg, t, nc, p, nl, r, A, I, hnc, h0, h⟩ := H
  obtain ⟨x, y, e1, e2, e3⟩ := b_trouble h0
  exact ⟨x, y, e1, e2, e3, h1, hg, t, nc, p, nl, r, A, I, hnc, h0, h⟩
theorem rn_fault (H : zGN s a g ms ma rs) : ∃ (x : Int32) (y : Int32 × Int32), fX5_fault (s 27) = some x ∧ fX7_fault (ms 0) (ms 9) = some y ∧ x = y.1 ∧ zGN s a g (zu ms 0 y.2) ma rs := by
  obtain ⟨h1, hg, ⟨t, h0⟩, h2⟩ := H
  obtain ⟨x, y, e1, e2, e3⟩ := b_fault h0
  exact ⟨x, y, e1, e2, e3, h1, hg, ⟨t, h0⟩, h2⟩
theorem rn_where (H : zGN s a g ms ma rs) : ∃ (x : Int32) (y : Int32 × Int32), fX5_where (s 3) (s 28) = some x ∧ fX7_where (ms 0) (ms 2) = some y ∧ x = y.1 ∧ zGN s a g (zu ms 0 y.2) ma rs := by
  obtain ⟨h1, hg, ⟨t, h0⟩, h2⟩ := H
  obtain ⟨x, y, e1, e2, e3⟩ := b_where h0
  exact ⟨x, y, e1, e2, e3, h1, hg, ⟨t, h0⟩, h2⟩
theorem rn_trouble (H : zGN s a g ms ma rs) : ∃ (x : Int32) (y : Int32 × Int32), fX5_trouble (s 3) = some x ∧ fX7_trouble (ms 0) (ms 1) = some y ∧ x = y.1 ∧ zGN s a g (zu ms 0 y.2) ma rs := by
  obtain ⟨h1, hg, ⟨t, h0⟩, h2⟩ := H
  obtain ⟨x, y, e1, e2, e3⟩ := b_trouble h0
  exact ⟨x, y, e1, e2, e3, h1, hg, ⟨t, h0⟩, h2⟩
theorem r_size (H : zGC j e s a g ms ma rs ss ca) (a1 : Int32) : ∃ (x : Int32) (y : Int32 × Int32), fX5_size (s 0) (s 2) (s 45) (s 4) (s 5) (s 6) (s 7) (s 8) (s 9) (s 10) a1 = some x ∧ fX7_size (ms 0) (ms 3) (ms 11) (ms 12) (ms 26) (ms 27) (ms 28) (ms 30) (ms 31) (ms 32) (ms 34) a1 = some y ∧ x = y.1 ∧ zGC j e s a g (zu ms 0 y.2) ma rs ss ca := by
  obtain ⟨h1, hg, t, nc, p, nl, r, A, I, hnc, h0, hP, hN, hi⟩ := H
  obtain ⟨hpo, hpx, hfk, hl1, hl2, hpm⟩ := id hP
  obtain ⟨hb, hcl, hmo⟩ := id hN
  obtain ⟨v, e1, e2⟩ := m_size (tp := s 0) (th := ms 0) (im := s 2) (ims := ms 12) (kp := s 45) (ac := ms 11) (hpx.1.trans hpm.1.symm) (hpx.2.1.trans hpm.2.1.symm) (hpx.2.2.1.trans hpm.2.2.1.symm) (hl1.trans hl2.symm) (hpx.2.2.2.1.trans hpm.2.2.2.1.symm) (hpx.2.2.2.2.1.trans hpm.2.2.2.2.1.symm) (hpx.2.2.2.2.2.1.trans hpm.2.2.2.2.2.1.symm) (hcl.2.2.1.trans hmo.1.1.symm) (hi.2.1.trans hi.2.2.1.1.symm) a1
  rw [h0.2.1.trans h0.2.2.1.symm] at e2
  exact ⟨_, _, e1, e2, rfl, h1, hg, t, nc, p, nl, r, A, I, hnc, h0, hP, hN, hi⟩
theorem rn_size (H : zGN s a g ms ma rs) (a1 : Int32) : ∃ (x : Int32) (y : Int32 × Int32), fX5_size (s 0) (s 2) (s 45) (s 4) (s 5) (s 6) (s 7) (s 8) (s 9) (s 10) a1 = some x ∧ fX7_size_n (ms 0) (ms 3) a1 = some y ∧ x = y.1 ∧ zGN s a g (zu ms 0 y.2) ma rs := by
  obtain ⟨h1, hg, ⟨t, h0⟩, h2, h45, ⟨h4, h5, h6, h7, h8, h9, h10⟩, hd⟩ := H
  have hE : ∃ v, fX5_size (s 0) (s 2) (s 45) (s 4) (s 5) (s 6) (s 7) (s 8) (s 9) (s 10) a1 = some v ∧ fX7_size_n (ms 0) (ms 3) a1 = some (v, 0) := by
    rw [h0.2.1, h0.2.2.1, h2, h45, h4, h5, h6, h7, h8, h9, h10]
    unfold fX5_size fX7_size_n
    by_cases n0 : a1 = 0
    · have f7 : fX7_in a1 0 8 = some 1 := by
        unfold fX7_in
        rw [n0, if_neg (by decide), if_neg (by decide)]
      rw [f7, Option.bind_some, if_neg (show ¬ (1 : Int32) = 0 by decide), if_neg (show ¬ a1 = 9 by rw [n0]; decide), if_neg (show ¬ a1 = 9 by rw [n0]; decide), if_pos n0]
      exact ⟨_, rfl, rfl⟩
    by_cases n1 : a1 = 1
    · have f7 : fX7_in a1 0 8 = some 1 := by
        unfold fX7_in
        rw [n1, if_neg (by decide), if_neg (by decide)]
      rw [f7, Option.bind_some, if_neg (show ¬ (1 : Int32) = 0 by decide), if_neg (show ¬ a1 = 9 by rw [n1]; decide), if_neg (show ¬ a1 = 9 by rw [n1]; decide), if_neg n0, if_pos n1]
      exact ⟨_, rfl, rfl⟩
    by_cases n2 : a1 = 2
    · have f7 : fX7_in a1 0 8 = some 1 := by
        unfold fX7_in
        rw [n2, if_neg (by decide), if_neg (by decide)]
      rw [f7, Option.bind_some, if_neg (show ¬ (1 : Int32) = 0 by decide), if_neg (show ¬ a1 = 9 by rw [n2]; decide), if_neg (show ¬ a1 = 9 by rw [n2]; decide), if_neg n0, if_neg n1, if_pos n2, if_pos rfl]
      exact ⟨_, rfl, rfl⟩
    by_cases n3 : a1 = 3
    · have f7 : fX7_in a1 0 8 = some 1 := by
        unfold fX7_in
        rw [n3, if_neg (by decide), if_neg (by decide)]
      rw [f7, Option.bind_some, if_neg (show ¬ (1 : Int32) = 0 by decide), if_neg (show ¬ a1 = 9 by rw [n3]; decide), if_neg (show ¬ a1 = 9 by rw [n3]; decide), if_neg n0, if_neg n1, if_neg n2, if_pos n3]
      exact ⟨_, rfl, rfl⟩
    by_cases n4 : a1 = 4
    · have f7 : fX7_in a1 0 8 = some 1 := by
        unfold fX7_in
        rw [n4, if_neg (by decide), if_neg (by decide)]
      rw [f7, Option.bind_some, if_neg (show ¬ (1 : Int32) = 0 by decide), if_neg (show ¬ a1 = 9 by rw [n4]; decide), if_neg (show ¬ a1 = 9 by rw [n4]; decide), if_neg n0, if_neg n1, if_neg n2, if_neg n3, if_pos n4]
      exact ⟨_, rfl, rfl⟩
    by_cases n5 : a1 = 5
    · have f7 : fX7_in a1 0 8 = some 1 := by
        unfold fX7_in
        rw [n5, if_neg (by decide), if_neg (by decide)]
      rw [f7, Option.bind_some, if_neg (show ¬ (1 : Int32) = 0 by decide), if_neg (show ¬ a1 = 9 by rw [n5]; decide), if_neg (show ¬ a1 = 9 by rw [n5]; decide), if_neg n0, if_neg n1, if_neg n2, if_neg n3, if_neg n4, if_pos n5]
      exact ⟨_, rfl, rfl⟩
    by_cases n6 : a1 = 6
    · have f7 : fX7_in a1 0 8 = some 1 := by
        unfold fX7_in
        rw [n6, if_neg (by decide), if_neg (by decide)]
      rw [f7, Option.bind_some, if_neg (show ¬ (1 : Int32) = 0 by decide), if_neg (show ¬ a1 = 9 by rw [n6]; decide), if_neg (show ¬ a1 = 9 by rw [n6]; decide), if_neg n0, if_neg n1, if_neg n2, if_neg n3, if_neg n4, if_neg n5, if_pos n6]
      exact ⟨_, rfl, rfl⟩
    by_cases n7 : a1 = 7
    · have f7 : fX7_in a1 0 8 = some 1 := by
        unfold fX7_in
        rw [n7, if_neg (by decide), if_neg (by decide)]
      rw [f7, Option.bind_some, if_neg (show ¬ (1 : Int32) = 0 by decide), if_neg (show ¬ a1 = 9 by rw [n7]; decide), if_neg (show ¬ a1 = 9 by rw [n7]; decide), if_neg n0, if_neg n1, if_neg n2, if_neg n3, if_neg n4, if_neg n5, if_neg n6, if_pos n7]
      exact ⟨_, rfl, rfl⟩
    by_cases n8 : a1 = 8
    · have f7 : fX7_in a1 0 8 = some 1 := by
        unfold fX7_in
        rw [n8, if_neg (by decide), if_neg (by decide)]
      rw [f7, Option.bind_some, if_neg (show ¬ (1 : Int32) = 0 by decide), if_neg (show ¬ a1 = 9 by rw [n8]; decide), if_neg (show ¬ a1 = 9 by rw [n8]; decide), if_neg n0, if_neg n1, if_neg n2, if_neg n3, if_neg n4, if_neg n5, if_neg n6, if_neg n7, if_pos n8]
      exact ⟨_, rfl, rfl⟩
    rw [if_neg n0, if_neg n1, if_neg n2, if_neg n3, if_neg n4, if_neg n5, if_neg n6, if_neg n7, if_neg n8]
    by_cases n9 : a1 = 9
    · rw [if_pos n9, if_pos n9]
      exact ⟨_, rfl, rfl⟩
    rw [if_neg n9, if_neg n9]
    have f7 : fX7_in a1 0 8 = some 0 := by
      unfold fX7_in
      by_cases c0 : a1 < 0
      · rw [if_pos c0]
      · rw [if_neg c0]
        by_cases c8 : 8 < a1
        · rw [if_pos c8]
        · exfalso
          have q0 := mt i_lt.mpr c0
          have q8 := mt i_lt.mpr c8
          have z0 : (0 : Int32).toInt = 0 := by decide
          have z8 : (8 : Int32).toInt = 8 := by decide
          rw [z0] at q0
          rw [z8] at q8
          have hv : a1.toInt = 0 ∨ a1.toInt = 1 ∨ a1.toInt = 2 ∨ a1.toInt = 3 ∨ a1.toInt = 4 ∨ a1.toInt = 5 ∨ a1.toInt = 6 ∨ a1.toInt = 7 ∨ a1.toInt = 8 := by omega
          rcases hv with h | h | h | h | h | h | h | h | h
          · exact n0 (i_eq.mpr (by rw [h]; decide))
          · exact n1 (i_eq.mpr (by rw [h]; decide))
          · exact n2 (i_eq.mpr (by rw [h]; decide))
          · exact n3 (i_eq.mpr (by rw [h]; decide))
          · exact n4 (i_eq.mpr (by rw [h]; decide))
          · exact n5 (i_eq.mpr (by rw [h]; decide))
          · exact n6 (i_eq.mpr (by rw [h]; decide))
          · exact n7 (i_eq.mpr (by rw [h]; decide))
          · exact n8 (i_eq.mpr (by rw [h]; decide))
    rw [f7, Option.bind_some, if_pos rfl]
    exact ⟨_, rfl, rfl⟩
  obtain ⟨v, e1, e2⟩ := hE
  exact ⟨_, _, e1, e2, rfl, h1, hg, ⟨t, h0⟩, h2, h45, ⟨h4, h5, h6, h7, h8, h9, h10⟩, hd⟩
end FEW
section FEW2
variable {s : Nat → Int32} {a : Nat → Nat → Int32} {g : Nat → Option Nat} {ms : Nat → Int32} {ma : Nat → Nat → Int32} {rs : Nat → Nat → Nat}
theorem n_den {b1 b2 b3 : Int32} : ((fX7_denied b1 b2 b3).bind fun x1 => zbl x1.1 (some (x1.1, (0 : Int32), x1.2.1, x1.2.2))) = some (0, 0, b3, -1) := by
  unfold fX7_denied fX7_refused
  rw [Option.bind_some, Option.bind_some, zbl_n0]
theorem rn_image (H : zGN s a g ms ma rs) : ∃ (x : Int32 × Int32) (y : Int32 × Int32 × Int32 × Int32), fX5_imageR (s 1) (s 2) (s 3) = some x ∧ fX7_image_n (ms 0) (ms 1) (ms 2) = some y ∧ x.1 = y.1 ∧ zGN (zu s 3 x.2) a g (zu (zu (zu ms 0 y.2.1) 1 y.2.2.1) 2 y.2.2.2) ma rs := by
  obtain ⟨h1, hg, ⟨t, h0⟩, h2⟩ := H
  have e1 : fX5_imageR (s 1) (s 2) (s 3) = some (-1, 1) := by
    rw [h1]
    unfold fX5_imageR
    exact if_pos rfl
  exact ⟨_, _, e1, rfl, rfl, h1, hg, ⟨t, zB0_q (t' := 1) h0 (by decide) rfl rfl rfl rfl rfl rfl rfl rfl rfl⟩, h2⟩
theorem rn_back (H : zGN s a g ms ma rs) (a1 : Int32) : ∃ (x : Int32 × Int32) (y : Int32 × Int32 × Int32 × Int32), fX5_backR (s 2) (s 3) a1 = some x ∧ fX7_back_n (ms 0) (ms 1) (ms 2) a1 = some y ∧ x.1 = y.1 ∧ zGN (zu s 3 x.2) a g (zu (zu (zu ms 0 y.2.1) 1 y.2.2.1) 2 y.2.2.2) ma rs := by
  obtain ⟨h1, hg, ⟨t, h0⟩, h2⟩ := H
  have e1 : fX5_backR (s 2) (s 3) a1 = some (0, 1) := by
    rw [h2.1]
    unfold fX5_backR
    by_cases c : a1 < 0
    · rw [if_pos c]
    · rw [if_neg c, if_pos (Int32.not_lt.mp c)]
  exact ⟨_, _, e1, n_den, rfl, h1, hg, ⟨t, zB0_q (t' := 1) h0 (by decide) rfl rfl rfl rfl rfl rfl rfl rfl rfl⟩, h2⟩
theorem rn_undo (H : zGN s a g ms ma rs) : ∃ (x : Int32 × Int32 × Int32 × Int32 × Int32 × Int32 × Int32 × Int32 × Int32 × Int32 × Int32 × (Nat → Int32) × (Nat → Int32) × (Nat → Int32) × (Nat → Int32) × (Nat → Int32) × (Nat → Int32)) (y : Int32 × Int32 × Int32 × Int32), fX5_undo (s 3) (s 29) (s 30) (s 31) (s 32) (s 33) (s 34) (s 35) (s 36) (s 45) (a 27) (a 25) (a 22) (a 26) (a 24) (a 23) (a 43) (s 46) (s 47) (s 48) (s 49) (s 50) (a 44) (a 45) (a 42) (a 40) (a 37) (a 41) (a 39) (a 38) = some x ∧ fX7_undo_n (ms 0) (ms 1) (ms 2) = some y ∧ x.1 = y.1 ∧ zGN (zu (zu (zu (zu (zu (zu (zu (zu (zu (zu s 3 x.2.1) 29 x.2.2.1) 30 x.2.2.2.1) 31 x.2.2.2.2.1) 32 x.2.2.2.2.2.1) 33 x.2.2.2.2.2.2.1) 34 x.2.2.2.2.2.2.2.1) 35 x.2.2.2.2.2.2.2.2.1) 36 x.2.2.2.2.2.2.2.2.2.1) 45 x.2.2.2.2.2.2.2.2.2.2.1) (zu (zu (zu (zu (zu (zu a 27 x.2.2.2.2.2.2.2.2.2.2.2.1) 25 x.2.2.2.2.2.2.2.2.2.2.2.2.1) 22 x.2.2.2.2.2.2.2.2.2.2.2.2.2.1) 26 x.2.2.2.2.2.2.2.2.2.2.2.2.2.2.1) 24 x.2.2.2.2.2.2.2.2.2.2.2.2.2.2.2.1) 23 x.2.2.2.2.2.2.2.2.2.2.2.2.2.2.2.2) g (zu (zu (zu ms 0 y.2.1) 1 y.2.2.1) 2 y.2.2.2) ma rs := by
  obtain ⟨h1, hg, ⟨t, h0⟩, h2, h45, h3⟩ := H
  have e1 : fX5_undo (s 3) (s 29) (s 30) (s 31) (s 32) (s 33) (s 34) (s 35) (s 36) (s 45) (a 27) (a 25) (a 22) (a 26) (a 24) (a 23) (a 43) (s 46) (s 47) (s 48) (s 49) (s 50) (a 44) (a 45) (a 42) (a 40) (a 37) (a 41) (a 39) (a 38) = some (0, 6, (s 29), (s 30), (s 31), (s 32), (s 33), (s 34), (s 35), (s 36), (s 45), (a 27), (a 25), (a 22), (a 26), (a 24), (a 23)) := by
    unfold fX5_undo fX0_takeBack
    rw [if_neg (show ¬ (1 : Int32) ≤ s 45 by rw [h45]; decide), Option.bind_some, if_pos rfl]
  exact ⟨_, _, e1, n_den, rfl, h1, hg, ⟨t, zB0_q (t' := 6) h0 (by decide) rfl rfl rfl rfl rfl rfl rfl rfl rfl⟩, h2, h45, h3⟩
end FEW2
