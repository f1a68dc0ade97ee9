/-! ===== questions, with a cache ===== -/
set_option maxHeartbeats 1000000 in
theorem r_word {j e : Nat} {s : Nat → Int32} {a : Nat → Nat → Int32} {g : Nat → Option Nat} {ms : Nat → Int32} {ma : Nat → Nat → Int32} {rs : Nat → Nat → Nat} {ss : Nat → Nat → Int32} {ca : Nat → Nat → Nat → Int32} (H : zGC j e s a g ms ma rs ss ca) (a1 : Int32) (a2 : Int32) : ∃ (x : Int32 × Int32) (y : Int32 × Int32 × Int32 × Int32 × Int32 × Int32 × Int32 × (Nat → Int32)), fX5_word (s 1) (s 3) (a 23) a1 a2 = some x ∧ fX7_word (ms 0) (ms 1) (ms 2) (ms 13) (ms 14) (ms 15) (ms 27) (ma 2) (ma 3) a1 a2 = some y ∧ x.1 = y.1 ∧ zGC j e (zu s 3 x.2) a g (zu (zu (zu (zu (zu (zu ms 0 y.2.1) 1 y.2.2.1) 2 y.2.2.2.1) 13 y.2.2.2.2.1) 14 y.2.2.2.2.2.1) 15 y.2.2.2.2.2.2.1) (zu ma 3 y.2.2.2.2.2.2.2) rs ss ca := by
  obtain ⟨h1, hg, t, nc, p, nl, r, A, I, hnc, h0, hP, hN, hi⟩ := H
  obtain ⟨hpo, hpx, hfk, hl1, hl2, hpm⟩ := id hP
  obtain ⟨hb, hcl, hmo⟩ := id hN
  have hE : ∃ v' t' r', fX5_word (s 1) (s 3) (a 23) a1 a2 = some (v', t') ∧ fX7_word (ms 0) (ms 1) (ms 2) (ms 13) (ms 14) (ms 15) (ms 27) (ma 2) (ma 3) a1 a2 = some (v', 0, t', -1, r') := by
    rw [h1]
    exact m_word (zAb_now hb).1 hcl.1.2.2.2.2.2 hmo.2 a1 a2
  obtain ⟨v', t', r', e1, e2⟩ := hE
  have h4 := zal_at (t4_word _ _ _ _ _) e1
  exact ⟨_, _, e1, e2, rfl, h1, hg, t, nc, p, nl, r, A, I, hnc, zB0_q (t' := t') h0 h4 rfl rfl rfl rfl rfl rfl rfl rfl rfl, hP, hN, hi⟩
set_option maxHeartbeats 1000000 in
theorem r_memory {j e : Nat} {s : Nat → Int32} {a : Nat → Nat → Int32} {g : Nat → Option Nat} {ms : Nat → Int32} {ma : Nat → Nat → Int32} {rs : Nat → Nat → Nat} {ss : Nat → Nat → Int32} {ca : Nat → Nat → Nat → Int32} (H : zGC j e s a g ms ma rs ss ca) (a1 : Int32) (a2 : Int32) : ∃ (x : Int32 × Int32) (y : Int32 × Int32 × Int32 × Int32), fX5_memory (s 1) (s 3) (a 22) a1 a2 = some x ∧ fX7_memory (ms 0) (ms 1) (ms 2) (ma 2) a1 a2 = some y ∧ x.1 = y.1 ∧ zGC j e (zu s 3 x.2) a g (zu (zu (zu ms 0 y.2.1) 1 y.2.2.1) 2 y.2.2.2) ma rs ss ca := by
  obtain ⟨h1, hg, t, nc, p, nl, r, A, I, hnc, h0, hP, hN, hi⟩ := H
  obtain ⟨hpo, hpx, hfk, hl1, hl2, hpm⟩ := id hP
  obtain ⟨hb, hcl, hmo⟩ := id hN
  have hE : ∃ v' t', fX5_memory (s 1) (s 3) (a 22) a1 a2 = some (v', t') ∧ fX7_memory (ms 0) (ms 1) (ms 2) (ma 2) a1 a2 = some (v', 0, t', -1) := by
    rw [h1]
    exact m_memory hcl.1.2.2.2.2.2 hmo.2 a1 a2
  obtain ⟨v', t', e1, e2⟩ := hE
  have h4 := zal_at (t4_memory _ _ _ _ _) e1
  exact ⟨_, _, e1, e2, rfl, h1, hg, t, nc, p, nl, r, A, I, hnc, zB0_q (t' := t') h0 h4 rfl rfl rfl rfl rfl rfl rfl rfl rfl, hP, hN, hi⟩
set_option maxHeartbeats 1000000 in
theorem r_form {j e : Nat} {s : Nat → Int32} {a : Nat → Nat → Int32} {g : Nat → Option Nat} {ms : Nat → Int32} {ma : Nat → Nat → Int32} {rs : Nat → Nat → Nat} {ss : Nat → Nat → Int32} {ca : Nat → Nat → Nat → Int32} (H : zGC j e s a g ms ma rs ss ca) (a1 : Int32) : ∃ (x : Int32 × Int32) (y : Int32 × Int32 × Int32 × Int32 × Int32 × Int32 × Int32 × (Nat → Int32)), fX5_form (s 1) (s 3) (a 23) a1 = some x ∧ fX7_form (ms 0) (ms 1) (ms 2) (ms 13) (ms 14) (ms 15) (ms 27) (ma 2) (ma 3) a1 = some y ∧ x.1 = y.1 ∧ zGC j e (zu s 3 x.2) a g (zu (zu (zu (zu (zu (zu ms 0 y.2.1) 1 y.2.2.1) 2 y.2.2.2.1) 13 y.2.2.2.2.1) 14 y.2.2.2.2.2.1) 15 y.2.2.2.2.2.2.1) (zu ma 3 y.2.2.2.2.2.2.2) rs ss ca := by
  obtain ⟨h1, hg, t, nc, p, nl, r, A, I, hnc, h0, hP, hN, hi⟩ := H
  obtain ⟨hpo, hpx, hfk, hl1, hl2, hpm⟩ := id hP
  obtain ⟨hb, hcl, hmo⟩ := id hN
  have hE : ∃ v' t' r', fX5_form (s 1) (s 3) (a 23) a1 = some (v', t') ∧ fX7_form (ms 0) (ms 1) (ms 2) (ms 13) (ms 14) (ms 15) (ms 27) (ma 2) (ma 3) a1 = some (v', 0, t', -1, r') := by
    rw [h1]
    exact m_form (zAb_now hb).1 hcl.1.2.2.2.2.2 hmo.2 a1
  obtain ⟨v', t', r', e1, e2⟩ := hE
  have h4 := zal_at (t4_form _ _ _ _) e1
  exact ⟨_, _, e1, e2, rfl, h1, hg, t, nc, p, nl, r, A, I, hnc, zB0_q (t' := t') h0 h4 rfl rfl rfl rfl rfl rfl rfl rfl rfl, hP, hN, hi⟩
set_option maxHeartbeats 1000000 in
theorem r_bytes {j e : Nat} {s : Nat → Int32} {a : Nat → Nat → Int32} {g : Nat → Option Nat} {ms : Nat → Int32} {ma : Nat → Nat → Int32} {rs : Nat → Nat → Nat} {ss : Nat → Nat → Int32} {ca : Nat → Nat → Nat → Int32} (H : zGC j e s a g ms ma rs ss ca) (a1 : Int32) (a2 : Int32) : ∃ (x : Int32 × Int32) (y : Int32 × Int32 × Int32 × Int32 × Int32 × Int32 × Int32 × (Nat → Int32)), fX5_bytes (s 1) (s 3) (a 23) a1 a2 = some x ∧ fX7_bytes (ms 0) (ms 1) (ms 2) (ms 13) (ms 14) (ms 15) (ms 27) (ma 2) (ma 3) a1 a2 = some y ∧ x.1 = y.1 ∧ zGC j e (zu s 3 x.2) a g (zu (zu (zu (zu (zu (zu ms 0 y.2.1) 1 y.2.2.1) 2 y.2.2.2.1) 13 y.2.2.2.2.1) 14 y.2.2.2.2.2.1) 15 y.2.2.2.2.2.2.1) (zu ma 3 y.2.2.2.2.2.2.2) rs ss ca := by
  obtain ⟨h1, hg, t, nc, p, nl, r, A, I, hnc, h0, hP, hN, hi⟩ := H
  obtain ⟨hpo, hpx, hfk, hl1, hl2, hpm⟩ := id hP
  obtain ⟨hb, hcl, hmo⟩ := id hN
  have hE : ∃ v' t' r', fX5_bytes (s 1) (s 3) (a 23) a1 a2 = some (v', t') ∧ fX7_bytes (ms 0) (ms 1) (ms 2) (ms 13) (ms 14) (ms 15) (ms 27) (ma 2) (ma 3) a1 a2 = some (v', 0, t', -1, r') := by
    rw [h1]
    exact m_bytes (zAb_now hb).1 hcl.1.2.2.2.2.2 hmo.2 a1 a2
  obtain ⟨v', t', r', e1, e2⟩ := hE
  have h4 := zal_at (t4_bytes _ _ _ _ _) e1
  exact ⟨_, _, e1, e2, rfl, h1, hg, t, nc, p, nl, r, A, I, hnc, zB0_q (t' := t') h0 h4 rfl rfl rfl rfl rfl rfl rfl rfl rfl, hP, hN, hi⟩
set_option maxHeartbeats 1000000 in
theorem r_forms {j e : Nat} {s : Nat → Int32} {a : Nat → Nat → Int32} {g : Nat → Option Nat} {ms : Nat → Int32} {ma : Nat → Nat → Int32} {rs : Nat → Nat → Nat} {ss : Nat → Nat → Int32} {ca : Nat → Nat → Nat → Int32} (H : zGC j e s a g ms ma rs ss ca) (a1 : Int32) : ∃ (x : Int32 × Int32) (y : Int32 × Int32 × Int32 × Int32 × Int32 × Int32 × Int32 × (Nat → Int32)), fX5_forms (s 1) (s 3) (a 23) a1 = some x ∧ fX7_forms (ms 0) (ms 1) (ms 2) (ms 13) (ms 14) (ms 15) (ms 27) (ma 2) (ma 3) a1 = some y ∧ x.1 = y.1 ∧ zGC j e (zu s 3 x.2) a g (zu (zu (zu (zu (zu (zu ms 0 y.2.1) 1 y.2.2.1) 2 y.2.2.2.1) 13 y.2.2.2.2.1) 14 y.2.2.2.2.2.1) 15 y.2.2.2.2.2.2.1) (zu ma 3 y.2.2.2.2.2.2.2) rs ss ca := by
  obtain ⟨h1, hg, t, nc, p, nl, r, A, I, hnc, h0, hP, hN, hi⟩ := H
  obtain ⟨hpo, hpx, hfk, hl1, hl2, hpm⟩ := id hP
  obtain ⟨hb, hcl, hmo⟩ := id hN
  have hE : ∃ v' t' r', fX5_forms (s 1) (s 3) (a 23) a1 = some (v', t') ∧ fX7_forms (ms 0) (ms 1) (ms 2) (ms 13) (ms 14) (ms 15) (ms 27) (ma 2) (ma 3) a1 = some (v', 0, t', -1, r') := by
    rw [h1]
    exact m_forms (zAb_now hb).1 hcl.1.2.2.2.2.2 hmo.2 a1
  obtain ⟨v', t', r', e1, e2⟩ := hE
  have h4 := zal_at (t4_forms _ _ _ _) e1
  exact ⟨_, _, e1, e2, rfl, h1, hg, t, nc, p, nl, r, A, I, hnc, zB0_q (t' := t') h0 h4 rfl rfl rfl rfl rfl rfl rfl rfl rfl, hP, hN, hi⟩
set_option maxHeartbeats 1000000 in
theorem r_segments {j e : Nat} {s : Nat → Int32} {a : Nat → Nat → Int32} {g : Nat → Option Nat} {ms : Nat → Int32} {ma : Nat → Nat → Int32} {rs : Nat → Nat → Nat} {ss : Nat → Nat → Int32} {ca : Nat → Nat → Nat → Int32} (H : zGC j e s a g ms ma rs ss ca) (a1 : Int32) : ∃ (x : Int32 × Int32) (y : Int32 × Int32 × Int32 × Int32 × Int32 × Int32 × Int32 × (Nat → Int32)), fX5_segments (s 1) (s 3) (a 23) a1 = some x ∧ fX7_segments (ms 0) (ms 1) (ms 2) (ms 13) (ms 14) (ms 15) (ms 27) (ma 2) (ma 3) a1 = some y ∧ x.1 = y.1 ∧ zGC j e (zu s 3 x.2) a g (zu (zu (zu (zu (zu (zu ms 0 y.2.1) 1 y.2.2.1) 2 y.2.2.2.1) 13 y.2.2.2.2.1) 14 y.2.2.2.2.2.1) 15 y.2.2.2.2.2.2.1) (zu ma 3 y.2.2.2.2.2.2.2) rs ss ca := by
  obtain ⟨h1, hg, t, nc, p, nl, r, A, I, hnc, h0, hP, hN, hi⟩ := H
  obtain ⟨hpo, hpx, hfk, hl1, hl2, hpm⟩ := id hP
  obtain ⟨hb, hcl, hmo⟩ := id hN
  have hE : ∃ v' t' r', fX5_segments (s 1) (s 3) (a 23) a1 = some (v', t') ∧ fX7_segments (ms 0) (ms 1) (ms 2) (ms 13) (ms 14) (ms 15) (ms 27) (ma 2) (ma 3) a1 = some (v', 0, t', -1, r') := by
    rw [h1]
    exact m_segments (zAb_now hb).1 hcl.1.2.2.2.2.2 hmo.2 a1
  obtain ⟨v', t', r', e1, e2⟩ := hE
  have h4 := zal_at (t4_segments _ _ _ _) e1
  exact ⟨_, _, e1, e2, rfl, h1, hg, t, nc, p, nl, r, A, I, hnc, zB0_q (t' := t') h0 h4 rfl rfl rfl rfl rfl rfl rfl rfl rfl, hP, hN, hi⟩
set_option maxHeartbeats 1000000 in
theorem r_base {j e : Nat} {s : Nat → Int32} {a : Nat → Nat → Int32} {g : Nat → Option Nat} {ms : Nat → Int32} {ma : Nat → Nat → Int32} {rs : Nat → Nat → Nat} {ss : Nat → Nat → Int32} {ca : Nat → Nat → Nat → Int32} (H : zGC j e s a g ms ma rs ss ca) (a1 : Int32) (a2 : Int32) : ∃ (x : Int64 × Int32) (y : Int64 × Int32 × Int32 × Int32 × Int32 × Int32 × Int32 × (Nat → Int32)), fX5_base (s 1) (s 3) (a 23) a1 a2 = some x ∧ fX7_base (ms 0) (ms 1) (ms 2) (ms 13) (ms 14) (ms 15) (ms 27) (ma 2) (ma 3) a1 a2 = some y ∧ x.1 = y.1 ∧ zGC j e (zu s 3 x.2) a g (zu (zu (zu (zu (zu (zu ms 0 y.2.1) 1 y.2.2.1) 2 y.2.2.2.1) 13 y.2.2.2.2.1) 14 y.2.2.2.2.2.1) 15 y.2.2.2.2.2.2.1) (zu ma 3 y.2.2.2.2.2.2.2) rs ss ca := by
  obtain ⟨h1, hg, t, nc, p, nl, r, A, I, hnc, h0, hP, hN, hi⟩ := H
  obtain ⟨hpo, hpx, hfk, hl1, hl2, hpm⟩ := id hP
  obtain ⟨hb, hcl, hmo⟩ := id hN
  have hE : ∃ v' t' r', fX5_base (s 1) (s 3) (a 23) a1 a2 = some (v', t') ∧ fX7_base (ms 0) (ms 1) (ms 2) (ms 13) (ms 14) (ms 15) (ms 27) (ma 2) (ma 3) a1 a2 = some (v', 0, t', -1, r') := by
    rw [h1]
    exact m_base (zAb_now hb).1 hcl.1.2.2.2.2.2 hmo.2 a1 a2
  obtain ⟨v', t', r', e1, e2⟩ := hE
  have h4 := zal_at (t4_base _ _ _ _ _) e1
  exact ⟨_, _, e1, e2, rfl, h1, hg, t, nc, p, nl, r, A, I, hnc, zB0_q (t' := t') h0 h4 rfl rfl rfl rfl rfl rfl rfl rfl rfl, hP, hN, hi⟩
set_option maxHeartbeats 1000000 in
theorem r_mask {j e : Nat} {s : Nat → Int32} {a : Nat → Nat → Int32} {g : Nat → Option Nat} {ms : Nat → Int32} {ma : Nat → Nat → Int32} {rs : Nat → Nat → Nat} {ss : Nat → Nat → Int32} {ca : Nat → Nat → Nat → Int32} (H : zGC j e s a g ms ma rs ss ca) (a1 : Int32) (a2 : Int32) : ∃ (x : Int32 × Int32) (y : Int32 × Int32 × Int32 × Int32 × Int32 × Int32 × Int32 × (Nat → Int32)), fX5_mask (s 1) (s 3) (a 23) a1 a2 = some x ∧ fX7_mask (ms 0) (ms 1) (ms 2) (ms 13) (ms 14) (ms 15) (ms 27) (ma 2) (ma 3) a1 a2 = some y ∧ x.1 = y.1 ∧ zGC j e (zu s 3 x.2) a g (zu (zu (zu (zu (zu (zu ms 0 y.2.1) 1 y.2.2.1) 2 y.2.2.2.1) 13 y.2.2.2.2.1) 14 y.2.2.2.2.2.1) 15 y.2.2.2.2.2.2.1) (zu ma 3 y.2.2.2.2.2.2.2) rs ss ca := by
  obtain ⟨h1, hg, t, nc, p, nl, r, A, I, hnc, h0, hP, hN, hi⟩ := H
  obtain ⟨hpo, hpx, hfk, hl1, hl2, hpm⟩ := id hP
  obtain ⟨hb, hcl, hmo⟩ := id hN
  have hE : ∃ v' t' r', fX5_mask (s 1) (s 3) (a 23) a1 a2 = some (v', t') ∧ fX7_mask (ms 0) (ms 1) (ms 2) (ms 13) (ms 14) (ms 15) (ms 27) (ma 2) (ma 3) a1 a2 = some (v', 0, t', -1, r') := by
    rw [h1]
    exact m_mask (zAb_now hb).1 hcl.1.2.2.2.2.2 hmo.2 a1 a2
  obtain ⟨v', t', r', e1, e2⟩ := hE
  have h4 := zal_at (t4_mask _ _ _ _ _) e1
  exact ⟨_, _, e1, e2, rfl, h1, hg, t, nc, p, nl, r, A, I, hnc, zB0_q (t' := t') h0 h4 rfl rfl rfl rfl rfl rfl rfl rfl rfl, hP, hN, hi⟩
set_option maxHeartbeats 1000000 in
theorem r_difference {j e : Nat} {s : Nat → Int32} {a : Nat → Nat → Int32} {g : Nat → Option Nat} {ms : Nat → Int32} {ma : Nat → Nat → Int32} {rs : Nat → Nat → Nat} {ss : Nat → Nat → Int32} {ca : Nat → Nat → Nat → Int32} (H : zGC j e s a g ms ma rs ss ca) (a1 : Int32) (a2 : Int32) (a3 : Int32) : ∃ (x : Int64 × Int32) (y : Int64 × Int32 × Int32 × Int32 × Int32 × Int32 × Int32 × (Nat → Int32)), fX5_difference (s 1) (s 3) (a 23) a1 a2 a3 = some x ∧ fX7_difference (ms 0) (ms 1) (ms 2) (ms 13) (ms 14) (ms 15) (ms 27) (ma 2) (ma 3) a1 a2 a3 = some y ∧ x.1 = y.1 ∧ zGC j e (zu s 3 x.2) a g (zu (zu (zu (zu (zu (zu ms 0 y.2.1) 1 y.2.2.1) 2 y.2.2.2.1) 13 y.2.2.2.2.1) 14 y.2.2.2.2.2.1) 15 y.2.2.2.2.2.2.1) (zu ma 3 y.2.2.2.2.2.2.2) rs ss ca := by
  obtain ⟨h1, hg, t, nc, p, nl, r, A, I, hnc, h0, hP, hN, hi⟩ := H
  obtain ⟨hpo, hpx, hfk, hl1, hl2, hpm⟩ := id hP
  obtain ⟨hb, hcl, hmo⟩ := id hN
  have hE : ∃ v' t' r', fX5_difference (s 1) (s 3) (a 23) a1 a2 a3 = some (v', t') ∧ fX7_difference (ms 0) (ms 1) (ms 2) (ms 13) (ms 14) (ms 15) (ms 27) (ma 2) (ma 3) a1 a2 a3 = some (v', 0, t', -1, r') := by
    rw [h1]
    exact m_difference (zAb_now hb).1 hcl.1.2.2.2.2.2 hmo.2 a1 a2 a3
  obtain ⟨v', t', r', e1, e2⟩ := hE
  have h4 := zal_at (t4_difference _ _ _ _ _ _) e1
  exact ⟨_, _, e1, e2, rfl, h1, hg, t, nc, p, nl, r, A, I, hnc, zB0_q (t' := t') h0 h4 rfl rfl rfl rfl rfl rfl rfl rfl rfl, hP, hN, hi⟩
set_option maxHeartbeats 1000000 in
theorem r_linesOf {j e : Nat} {s : Nat → Int32} {a : Nat → Nat → Int32} {g : Nat → Option Nat} {ms : Nat → Int32} {ma : Nat → Nat → Int32} {rs : Nat → Nat → Nat} {ss : Nat → Nat → Int32} {ca : Nat → Nat → Nat → Int32} (H : zGC j e s a g ms ma rs ss ca) (a1 : Int32) : ∃ (x : Int32 × Int32) (y : Int32 × Int32 × Int32 × Int32 × Int32 × Int32 × Int32 × (Nat → Int32)), fX5_linesOf (s 1) (s 3) (a 23) a1 = some x ∧ fX7_linesOf (ms 0) (ms 1) (ms 2) (ms 13) (ms 14) (ms 15) (ms 27) (ma 2) (ma 3) a1 = some y ∧ x.1 = y.1 ∧ zGC j e (zu s 3 x.2) a g (zu (zu (zu (zu (zu (zu ms 0 y.2.1) 1 y.2.2.1) 2 y.2.2.2.1) 13 y.2.2.2.2.1) 14 y.2.2.2.2.2.1) 15 y.2.2.2.2.2.2.1) (zu ma 3 y.2.2.2.2.2.2.2) rs ss ca := by
  obtain ⟨h1, hg, t, nc, p, nl, r, A, I, hnc, h0, hP, hN, hi⟩ := H
  obtain ⟨hpo, hpx, hfk, hl1, hl2, hpm⟩ := id hP
  obtain ⟨hb, hcl, hmo⟩ := id hN
  have hE : ∃ v' t' r', fX5_linesOf (s 1) (s 3) (a 23) a1 = some (v', t') ∧ fX7_linesOf (ms 0) (ms 1) (ms 2) (ms 13) (ms 14) (ms 15) (ms 27) (ma 2) (ma 3) a1 = some (v', 0, t', -1, r') := by
    rw [h1]
    exact m_linesOf (zAb_now hb).1 hcl.1.2.2.2.2.2 hmo.2 a1
  obtain ⟨v', t', r', e1, e2⟩ := hE
  have h4 := zal_at (t4_linesOf _ _ _ _) e1
  exact ⟨_, _, e1, e2, rfl, h1, hg, t, nc, p, nl, r, A, I, hnc, zB0_q (t' := t') h0 h4 rfl rfl rfl rfl rfl rfl rfl rfl rfl, hP, hN, hi⟩
set_option maxHeartbeats 1000000 in
theorem r_set {j e : Nat} {s : Nat → Int32} {a : Nat → Nat → Int32} {g : Nat → Option Nat} {ms : Nat → Int32} {ma : Nat → Nat → Int32} {rs : Nat → Nat → Nat} {ss : Nat → Nat → Int32} {ca : Nat → Nat → Nat → Int32} (H : zGC j e s a g ms ma rs ss ca) (a1 : Int32) (a2 : Int32) : ∃ (x : Int32 × Int32) (y : Int32 × Int32 × Int32 × Int32 × Int32 × Int32 × Int32 × (Nat → Int32)), fX5_set (s 1) (s 3) (s 29) (s 30) (s 4) (a 27) (a 26) (a 24) a1 a2 = some x ∧ fX7_set (ms 0) (ms 1) (ms 2) (ms 13) (ms 14) (ms 15) (ms 26) (ms 27) (ma 2) (ma 3) a1 a2 = some y ∧ x.1 = y.1 ∧ zGC j e (zu s 3 x.2) a g (zu (zu (zu (zu (zu (zu ms 0 y.2.1) 1 y.2.2.1) 2 y.2.2.2.1) 13 y.2.2.2.2.1) 14 y.2.2.2.2.2.1) 15 y.2.2.2.2.2.2.1) (zu ma 3 y.2.2.2.2.2.2.2) rs ss ca := by
  obtain ⟨h1, hg, t, nc, p, nl, r, A, I, hnc, h0, hP, hN, hi⟩ := H
  obtain ⟨hpo, hpx, hfk, hl1, hl2, hpm⟩ := id hP
  obtain ⟨hb, hcl, hmo⟩ := id hN
  have hE : ∃ v' t' r', fX5_set (s 1) (s 3) (s 29) (s 30) (s 4) (a 27) (a 26) (a 24) a1 a2 = some (v', t') ∧ fX7_set (ms 0) (ms 1) (ms 2) (ms 13) (ms 14) (ms 15) (ms 26) (ms 27) (ma 2) (ma 3) a1 a2 = some (v', 0, t', -1, r') := by
    rw [h1, hcl.1.1, hcl.1.2.1, hpx.1, hpm.1, hpm.2.1]
    exact m_set hb.1 (zAb_now hb).1 hcl.1.2.2.2.2.2 hmo.2 a1 a2
  obtain ⟨v', t', r', e1, e2⟩ := hE
  have h4 := zal_at (t4_set _ _ _ _ _ _ _ _ _ _) e1
  exact ⟨_, _, e1, e2, rfl, h1, hg, t, nc, p, nl, r, A, I, hnc, zB0_q (t' := t') h0 h4 rfl rfl rfl rfl rfl rfl rfl rfl rfl, hP, hN, hi⟩
set_option maxHeartbeats 1000000 in
theorem r_tag {j e : Nat} {s : Nat → Int32} {a : Nat → Nat → Int32} {g : Nat → Option Nat} {ms : Nat → Int32} {ma : Nat → Nat → Int32} {rs : Nat → Nat → Nat} {ss : Nat → Nat → Int32} {ca : Nat → Nat → Nat → Int32} (H : zGC j e s a g ms ma rs ss ca) (a1 : Int32) (a2 : Int32) : ∃ (x : Int32 × Int32) (y : Int32 × Int32 × Int32 × Int32 × Int32 × Int32 × Int32 × Int32 × (Nat → Int32) × (Nat → Int32)), fX5_tag (s 1) (s 3) (s 29) (s 4) (a 25) (a 24) a1 a2 = some x ∧ fX7_tag (ms 0) (ms 1) (ms 2) (ms 13) (ms 14) (ms 15) (ms 16) (ms 26) (ms 27) (ma 6) (ma 2) (ma 3) a1 a2 = some y ∧ x.1 = y.1 ∧ zGC j e (zu s 3 x.2) a g (zu (zu (zu (zu (zu (zu (zu ms 0 y.2.1) 1 y.2.2.1) 2 y.2.2.2.1) 13 y.2.2.2.2.1) 14 y.2.2.2.2.2.1) 15 y.2.2.2.2.2.2.1) 16 y.2.2.2.2.2.2.2.1) (zu (zu ma 6 y.2.2.2.2.2.2.2.2.1) 3 y.2.2.2.2.2.2.2.2.2) rs ss ca := by
  obtain ⟨h1, hg, t, nc, p, nl, r, A, I, hnc, h0, hP, hN, hi⟩ := H
  obtain ⟨hpo, hpx, hfk, hl1, hl2, hpm⟩ := id hP
  obtain ⟨hb, hcl, hmo⟩ := id hN
  have hE : ∃ v' t' r', fX5_tag (s 1) (s 3) (s 29) (s 4) (a 25) (a 24) a1 a2 = some (v', t') ∧ fX7_tag (ms 0) (ms 1) (ms 2) (ms 13) (ms 14) (ms 15) (ms 16) (ms 26) (ms 27) (ma 6) (ma 2) (ma 3) a1 a2 = some (v', 0, t', -1, r') := by
    rw [h1, hcl.1.1, hpx.1, hpm.1, hpm.2.1]
    exact m_tag hb.1 (zAb_now hb).1 hcl.1.2.2.2.2.2 hmo.2 a1 a2
  obtain ⟨v', t', r', e1, e2⟩ := hE
  have h4 := zal_at (t4_tag _ _ _ _ _ _ _ _) e1
  exact ⟨_, _, e1, e2, rfl, h1, hg, t, nc, p, nl, r, A, I, hnc, zB0_q (t' := t') h0 h4 rfl rfl rfl rfl rfl rfl rfl rfl rfl, hP, hN, hi⟩
set_option maxHeartbeats 1000000 in
theorem r_cached {j e : Nat} {s : Nat → Int32} {a : Nat → Nat → Int32} {g : Nat → Option Nat} {ms : Nat → Int32} {ma : Nat → Nat → Int32} {rs : Nat → Nat → Nat} {ss : Nat → Nat → Int32} {ca : Nat → Nat → Nat → Int32} (H : zGC j e s a g ms ma rs ss ca) (a1 : Int32) (a2 : Int32) : ∃ (x : Int32 × Int32) (y : Int32 × Int32 × Int32 × Int32 × Int32 × Int32 × Int32 × Int32 × (Nat → Int32) × (Nat → Int32)), fX5_cached (s 1) (s 3) (s 29) (a 27) (a 25) (a 24) a1 a2 = some x ∧ fX7_cached (ms 0) (ms 1) (ms 2) (ms 13) (ms 14) (ms 15) (ms 16) (ms 26) (ms 27) (ma 6) (ma 2) (ma 3) a1 a2 = some y ∧ x.1 = y.1 ∧ zGC j e (zu s 3 x.2) a g (zu (zu (zu (zu (zu (zu (zu ms 0 y.2.1) 1 y.2.2.1) 2 y.2.2.2.1) 13 y.2.2.2.2.1) 14 y.2.2.2.2.2.1) 15 y.2.2.2.2.2.2.1) 16 y.2.2.2.2.2.2.2.1) (zu (zu ma 6 y.2.2.2.2.2.2.2.2.1) 3 y.2.2.2.2.2.2.2.2.2) rs ss ca := by
  obtain ⟨h1, hg, t, nc, p, nl, r, A, I, hnc, h0, hP, hN, hi⟩ := H
  obtain ⟨hpo, hpx, hfk, hl1, hl2, hpm⟩ := id hP
  obtain ⟨hb, hcl, hmo⟩ := id hN
  have hE : ∃ v' t' r', fX5_cached (s 1) (s 3) (s 29) (a 27) (a 25) (a 24) a1 a2 = some (v', t') ∧ fX7_cached (ms 0) (ms 1) (ms 2) (ms 13) (ms 14) (ms 15) (ms 16) (ms 26) (ms 27) (ma 6) (ma 2) (ma 3) a1 a2 = some (v', 0, t', -1, r') := by
    rw [h1, hcl.1.1, hpm.1, hpm.2.1]
    exact m_cached hb.1 (zAb_now hb).1 hcl.1.2.2.2.2.2 hmo.2 a1 a2
  obtain ⟨v', t', r', e1, e2⟩ := hE
  have h4 := zal_at (t4_cached _ _ _ _ _ _ _ _) e1
  exact ⟨_, _, e1, e2, rfl, h1, hg, t, nc, p, nl, r, A, I, hnc, zB0_q (t' := t') h0 h4 rfl rfl rfl rfl rfl rfl rfl rfl rfl, hP, hN, hi⟩
set_option maxHeartbeats 1000000 in
theorem r_isCached {j e : Nat} {s : Nat → Int32} {a : Nat → Nat → Int32} {g : Nat → Option Nat} {ms : Nat → Int32} {ma : Nat → Nat → Int32} {rs : Nat → Nat → Nat} {ss : Nat → Nat → Int32} {ca : Nat → Nat → Nat → Int32} (H : zGC j e s a g ms ma rs ss ca) (a1 : Int32) : ∃ (x : Int32 × Int32) (y : Int32 × Int32 × Int32 × Int32), fX5_isCached (s 1) (s 3) (a 24) a1 = some x ∧ fX7_isCached (ms 0) (ms 1) (ms 2) (ma 2) a1 = some y ∧ x.1 = y.1 ∧ zGC j e (zu s 3 x.2) a g (zu (zu (zu ms 0 y.2.1) 1 y.2.2.1) 2 y.2.2.2) ma rs ss ca := by
  obtain ⟨h1, hg, t, nc, p, nl, r, A, I, hnc, h0, hP, hN, hi⟩ := H
  obtain ⟨hpo, hpx, hfk, hl1, hl2, hpm⟩ := id hP
  obtain ⟨hb, hcl, hmo⟩ := id hN
  have hE : ∃ v' t', fX5_isCached (s 1) (s 3) (a 24) a1 = some (v', t') ∧ fX7_isCached (ms 0) (ms 1) (ms 2) (ma 2) a1 = some (v', 0, t', -1) := by
    rw [h1]
    exact m_isCached (zAb_now hb).1 hcl.1.2.2.2.2.2 hmo.2 a1
  obtain ⟨v', t', e1, e2⟩ := hE
  have h4 := zal_at (t4_isCached _ _ _ _) e1
  exact ⟨_, _, e1, e2, rfl, h1, hg, t, nc, p, nl, r, A, I, hnc, zB0_q (t' := t') h0 h4 rfl rfl rfl rfl rfl rfl rfl rfl rfl, hP, hN, hi⟩
set_option maxHeartbeats 1000000 in
theorem r_victim {j e : Nat} {s : Nat → Int32} {a : Nat → Nat → Int32} {g : Nat → Option Nat} {ms : Nat → Int32} {ma : Nat → Nat → Int32} {rs : Nat → Nat → Nat} {ss : Nat → Nat → Int32} {ca : Nat → Nat → Nat → Int32} (H : zGC j e s a g ms ma rs ss ca) (a1 : Int32) : ∃ (x : Int32 × Int32) (y : Int32 × Int32 × Int32 × Int32 × Int32 × Int32 × Int32 × Int32 × (Nat → Int32) × (Nat → Int32)), fX5_victim (s 1) (s 3) (s 29) (s 31) (s 4) (a 25) (a 26) (a 24) a1 = some x ∧ fX7_victim (ms 0) (ms 1) (ms 2) (ms 13) (ms 14) (ms 15) (ms 16) (ms 26) (ms 27) (ms 34) (ma 6) (ma 2) (ma 3) a1 = some y ∧ x.1 = y.1 ∧ zGC j e (zu s 3 x.2) a g (zu (zu (zu (zu (zu (zu (zu ms 0 y.2.1) 1 y.2.2.1) 2 y.2.2.2.1) 13 y.2.2.2.2.1) 14 y.2.2.2.2.2.1) 15 y.2.2.2.2.2.2.1) 16 y.2.2.2.2.2.2.2.1) (zu (zu ma 6 y.2.2.2.2.2.2.2.2.1) 3 y.2.2.2.2.2.2.2.2.2) rs ss ca := by
  obtain ⟨h1, hg, t, nc, p, nl, r, A, I, hnc, h0, hP, hN, hi⟩ := H
  obtain ⟨hpo, hpx, hfk, hl1, hl2, hpm⟩ := id hP
  obtain ⟨hb, hcl, hmo⟩ := id hN
  have hE : ∃ v' t' r', fX5_victim (s 1) (s 3) (s 29) (s 31) (s 4) (a 25) (a 26) (a 24) a1 = some (v', t') ∧ fX7_victim (ms 0) (ms 1) (ms 2) (ms 13) (ms 14) (ms 15) (ms 16) (ms 26) (ms 27) (ms 34) (ma 6) (ma 2) (ma 3) a1 = some (v', 0, t', -1, r') := by
    rw [h1, hcl.1.1, hcl.1.2.2.1, hpx.1, hpm.1, hpm.2.2.1]
    exact m_victim hb.1 (zAb_now hb).1 hcl.1.2.2.2.2.2 hmo.2 a1
  obtain ⟨v', t', r', e1, e2⟩ := hE
  have h4 := zal_at (t4_victim _ _ _ _ _ _ _ _ _) e1
  exact ⟨_, _, e1, e2, rfl, h1, hg, t, nc, p, nl, r, A, I, hnc, zB0_q (t' := t') h0 h4 rfl rfl rfl rfl rfl rfl rfl rfl rfl, hP, hN, hi⟩
set_option maxHeartbeats 1000000 in
theorem r_makesRoom {j e : Nat} {s : Nat → Int32} {a : Nat → Nat → Int32} {g : Nat → Option Nat} {ms : Nat → Int32} {ma : Nat → Nat → Int32} {rs : Nat → Nat → Nat} {ss : Nat → Nat → Int32} {ca : Nat → Nat → Nat → Int32} (H : zGC j e s a g ms ma rs ss ca) (a1 : Int32) : ∃ (x : Int32 × Int32 × Int32 × Int32 × Int32 × Int32 × Int32 × Int32 × Int32 × Int32 × (Nat → Int32) × (Nat → Int32) × (Nat → Int32) × (Nat → Int32) × (Nat → Int32) × (Nat → Int32)) (y : Int32 × Int32 × Int32 × Int32 × Int32 × Int32 × Int32 × Int32 × (Nat → Int32) × (Nat → Int32)), fX5_makesRoom (s 1) (s 3) (s 29) (s 30) (s 31) (s 32) (s 33) (s 37) (s 38) (s 39) (s 40) (s 41) (s 42) (s 43) (s 44) (a 27) (a 25) (a 22) (a 26) (a 24) (a 23) (a 34) (a 32) (a 29) (a 33) (a 31) (a 30) a1 = some x ∧ fX7_makesRoom (ms 0) (ms 1) (ms 2) (ms 13) (ms 14) (ms 15) (ms 16) (ms 26) (ms 27) (ms 34) (ma 6) (ma 2) (ma 3) a1 = some y ∧ x.1 = y.1 ∧ zGC j e (zu (zu (zu (zu (zu (zu (zu (zu (zu s 3 x.2.1) 37 x.2.2.1) 38 x.2.2.2.1) 39 x.2.2.2.2.1) 40 x.2.2.2.2.2.1) 41 x.2.2.2.2.2.2.1) 42 x.2.2.2.2.2.2.2.1) 43 x.2.2.2.2.2.2.2.2.1) 44 x.2.2.2.2.2.2.2.2.2.1) (zu (zu (zu (zu (zu (zu a 34 x.2.2.2.2.2.2.2.2.2.2.1) 32 x.2.2.2.2.2.2.2.2.2.2.2.1) 29 x.2.2.2.2.2.2.2.2.2.2.2.2.1) 33 x.2.2.2.2.2.2.2.2.2.2.2.2.2.1) 31 x.2.2.2.2.2.2.2.2.2.2.2.2.2.2.1) 30 x.2.2.2.2.2.2.2.2.2.2.2.2.2.2.2) g (zu (zu (zu (zu (zu (zu (zu ms 0 y.2.1) 1 y.2.2.1) 2 y.2.2.2.1) 13 y.2.2.2.2.1) 14 y.2.2.2.2.2.1) 15 y.2.2.2.2.2.2.1) 16 y.2.2.2.2.2.2.2.1) (zu (zu ma 6 y.2.2.2.2.2.2.2.2.1) 3 y.2.2.2.2.2.2.2.2.2) rs ss ca := by
  obtain ⟨h1, hg, t, nc, p, nl, r, A, I, hnc, h0, hP, hN, hi⟩ := H
  obtain ⟨hpo, hpx, hfk, hl1, hl2, hpm⟩ := id hP
  obtain ⟨hb, hcl, hmo⟩ := id hN
  have hE : ∃ v' t' r' r2', fX5_makesRoom (s 1) (s 3) (s 29) (s 30) (s 31) (s 32) (s 33) (s 37) (s 38) (s 39) (s 40) (s 41) (s 42) (s 43) (s 44) (a 27) (a 25) (a 22) (a 26) (a 24) (a 23) (a 34) (a 32) (a 29) (a 33) (a 31) (a 30) a1 = some (v', t', r') ∧ fX7_makesRoom (ms 0) (ms 1) (ms 2) (ms 13) (ms 14) (ms 15) (ms 16) (ms 26) (ms 27) (ms 34) (ma 6) (ma 2) (ma 3) a1 = some (v', 0, t', -1, r2') := by
    rw [h1, hcl.1.1, hcl.1.2.1, hcl.1.2.2.1, hcl.1.2.2.2.1, hcl.1.2.2.2.2.1, hpm.1, hpm.2.1, hpm.2.2.1]
    exact m_makesRoom hb.1 (zAb_now hb).1 (by have h5 := (zAb_now hb).2.2; have h6 := hb.2.2.2.2.2.2; omega) (zAb_now hb).2.1 hcl.1.2.2.2.2.2 hmo.2 a1
  obtain ⟨v', t', r', r2', e1, e2⟩ := hE
  have h4 := zal_at (t4_makesRoom _ _ _ _ _ _ _ _ _ _ _ _ _ _ _ _ _ _ _ _ _ _ _ _ _ _ _ _) e1
  exact ⟨_, _, e1, e2, rfl, h1, hg, t, nc, p, nl, r, A, I, hnc, zB0_q (t' := t') h0 h4 rfl rfl rfl rfl rfl rfl rfl rfl rfl, hP, hN, hi⟩
set_option maxHeartbeats 1000000 in
theorem r_growsOver {j e : Nat} {s : Nat → Int32} {a : Nat → Nat → Int32} {g : Nat → Option Nat} {ms : Nat → Int32} {ma : Nat → Nat → Int32} {rs : Nat → Nat → Nat} {ss : Nat → Nat → Int32} {ca : Nat → Nat → Nat → Int32} (H : zGC j e s a g ms ma rs ss ca) (a1 : Int32) (a2 : Int32) (a3 : Int32) : ∃ (x : Int32 × Int32 × Int32 × Int32 × Int32 × Int32 × Int32 × Int32 × Int32 × Int32 × (Nat → Int32) × (Nat → Int32) × (Nat → Int32) × (Nat → Int32) × (Nat → Int32) × (Nat → Int32)) (y : Int32 × Int32 × Int32 × Int32 × Int32 × Int32 × Int32 × Int32 × (Nat → Int32) × (Nat → Int32)), fX5_growsOver (s 1) (s 3) (s 29) (s 30) (s 31) (s 32) (s 33) (s 37) (s 38) (s 39) (s 40) (s 41) (s 42) (s 43) (s 44) (a 27) (a 25) (a 22) (a 26) (a 24) (a 23) (a 34) (a 32) (a 29) (a 33) (a 31) (a 30) a1 a2 a3 = some x ∧ fX7_growsOver (ms 0) (ms 1) (ms 2) (ms 13) (ms 14) (ms 15) (ms 16) (ms 26) (ms 27) (ms 34) (ma 6) (ma 2) (ma 3) a1 a2 a3 = some y ∧ x.1 = y.1 ∧ zGC j e (zu (zu (zu (zu (zu (zu (zu (zu (zu s 3 x.2.1) 37 x.2.2.1) 38 x.2.2.2.1) 39 x.2.2.2.2.1) 40 x.2.2.2.2.2.1) 41 x.2.2.2.2.2.2.1) 42 x.2.2.2.2.2.2.2.1) 43 x.2.2.2.2.2.2.2.2.1) 44 x.2.2.2.2.2.2.2.2.2.1) (zu (zu (zu (zu (zu (zu a 34 x.2.2.2.2.2.2.2.2.2.2.1) 32 x.2.2.2.2.2.2.2.2.2.2.2.1) 29 x.2.2.2.2.2.2.2.2.2.2.2.2.1) 33 x.2.2.2.2.2.2.2.2.2.2.2.2.2.1) 31 x.2.2.2.2.2.2.2.2.2.2.2.2.2.2.1) 30 x.2.2.2.2.2.2.2.2.2.2.2.2.2.2.2) g (zu (zu (zu (zu (zu (zu (zu ms 0 y.2.1) 1 y.2.2.1) 2 y.2.2.2.1) 13 y.2.2.2.2.1) 14 y.2.2.2.2.2.1) 15 y.2.2.2.2.2.2.1) 16 y.2.2.2.2.2.2.2.1) (zu (zu ma 6 y.2.2.2.2.2.2.2.2.1) 3 y.2.2.2.2.2.2.2.2.2) rs ss ca := by
  obtain ⟨h1, hg, t, nc, p, nl, r, A, I, hnc, h0, hP, hN, hi⟩ := H
  obtain ⟨hpo, hpx, hfk, hl1, hl2, hpm⟩ := id hP
  obtain ⟨hb, hcl, hmo⟩ := id hN
  have hE : ∃ v' t' r' r2', fX5_growsOver (s 1) (s 3) (s 29) (s 30) (s 31) (s 32) (s 33) (s 37) (s 38) (s 39) (s 40) (s 41) (s 42) (s 43) (s 44) (a 27) (a 25) (a 22) (a 26) (a 24) (a 23) (a 34) (a 32) (a 29) (a 33) (a 31) (a 30) a1 a2 a3 = some (v', t', r') ∧ fX7_growsOver (ms 0) (ms 1) (ms 2) (ms 13) (ms 14) (ms 15) (ms 16) (ms 26) (ms 27) (ms 34) (ma 6) (ma 2) (ma 3) a1 a2 a3 = some (v', 0, t', -1, r2') := by
    rw [h1, hcl.1.1, hcl.1.2.1, hcl.1.2.2.1, hcl.1.2.2.2.1, hcl.1.2.2.2.2.1, hpm.1, hpm.2.1, hpm.2.2.1]
    exact m_growsOver hb.1 (zAb_now hb).1 (by have h5 := (zAb_now hb).2.2; have h6 := hb.2.2.2.2.2.2; omega) (zAb_now hb).2.1 hcl.1.2.2.2.2.2 hmo.2 a1 a2 a3
  obtain ⟨v', t', r', r2', e1, e2⟩ := hE
  have h4 := zal_at (t4_growsOver _ _ _ _ _ _ _ _ _ _ _ _ _ _ _ _ _ _ _ _ _ _ _ _ _ _ _ _ _ _) e1
  exact ⟨_, _, e1, e2, rfl, h1, hg, t, nc, p, nl, r, A, I, hnc, zB0_q (t' := t') h0 h4 rfl rfl rfl rfl rfl rfl rfl rfl rfl, hP, hN, hi⟩
set_option maxHeartbeats 1000000 in
theorem r_ratio {j e : Nat} {s : Nat → Int32} {a : Nat → Nat → Int32} {g : Nat → Option Nat} {ms : Nat → Int32} {ma : Nat → Nat → Int32} {rs : Nat → Nat → Nat} {ss : Nat → Nat → Int32} {ca : Nat → Nat → Nat → Int32} (H : zGC j e s a g ms ma rs ss ca) (a1 : Int32) : ∃ (x : Int64 × Int32) (y : Int64 × Int32 × Int32 × Int32 × Int32 × Int32 × Int32 × (Nat → Int32)), fX5_ratio (s 1) (s 3) (a 26) (a 24) a1 = some x ∧ fX7_ratio (ms 0) (ms 1) (ms 2) (ms 13) (ms 14) (ms 15) (ms 27) (ma 2) (ma 3) a1 = some y ∧ x.1 = y.1 ∧ zGC j e (zu s 3 x.2) a g (zu (zu (zu (zu (zu (zu ms 0 y.2.1) 1 y.2.2.1) 2 y.2.2.2.1) 13 y.2.2.2.2.1) 14 y.2.2.2.2.2.1) 15 y.2.2.2.2.2.2.1) (zu ma 3 y.2.2.2.2.2.2.2) rs ss ca := by
  obtain ⟨h1, hg, t, nc, p, nl, r, A, I, hnc, h0, hP, hN, hi⟩ := H
  obtain ⟨hpo, hpx, hfk, hl1, hl2, hpm⟩ := id hP
  obtain ⟨hb, hcl, hmo⟩ := id hN
  have hE : ∃ v' t' r', fX5_ratio (s 1) (s 3) (a 26) (a 24) a1 = some (v', t') ∧ fX7_ratio (ms 0) (ms 1) (ms 2) (ms 13) (ms 14) (ms 15) (ms 27) (ma 2) (ma 3) a1 = some (v', 0, t', -1, r') := by
    rw [h1]
    exact m_ratio (zAb_now hb).1 hcl.1.2.2.2.2.2 hmo.2 a1
  obtain ⟨v', t', r', e1, e2⟩ := hE
  have h4 := zal_at (t4_ratio _ _ _ _ _) e1
  exact ⟨_, _, e1, e2, rfl, h1, hg, t, nc, p, nl, r, A, I, hnc, zB0_q (t' := t') h0 h4 rfl rfl rfl rfl rfl rfl rfl rfl rfl, hP, hN, hi⟩
set_option maxHeartbeats 1000000 in
theorem r_lines {j e : Nat} {s : Nat → Int32} {a : Nat → Nat → Int32} {g : Nat → Option Nat} {ms : Nat → Int32} {ma : Nat → Nat → Int32} {rs : Nat → Nat → Nat} {ss : Nat → Nat → Int32} {ca : Nat → Nat → Nat → Int32} (H : zGC j e s a g ms ma rs ss ca) : ∃ (x : Int32 × Int32) (y : Int32 × Int32 × Int32 × Int32), fX5_lines (s 1) (s 3) (a 24) = some x ∧ fX7_lines (ms 0) (ms 1) (ms 2) (ma 2) = some y ∧ x.1 = y.1 ∧ zGC j e (zu s 3 x.2) a g (zu (zu (zu ms 0 y.2.1) 1 y.2.2.1) 2 y.2.2.2) ma rs ss ca := by
  obtain ⟨h1, hg, t, nc, p, nl, r, A, I, hnc, h0, hP, hN, hi⟩ := H
  obtain ⟨hpo, hpx, hfk, hl1, hl2, hpm⟩ := id hP
  obtain ⟨hb, hcl, hmo⟩ := id hN
  have hE : ∃ v' t', fX5_lines (s 1) (s 3) (a 24) = some (v', t') ∧ fX7_lines (ms 0) (ms 1) (ms 2) (ma 2) = some (v', 0, t', -1) := by
    rw [h1]
    exact m_lines (zAb_now hb).1 hcl.1.2.2.2.2.2 hmo.2 
  obtain ⟨v', t', e1, e2⟩ := hE
  have h4 := zal_at (t4_lines _ _ _) e1
  exact ⟨_, _, e1, e2, rfl, h1, hg, t, nc, p, nl, r, A, I, hnc, zB0_q (t' := t') h0 h4 rfl rfl rfl rfl rfl rfl rfl rfl rfl, hP, hN, hi⟩
set_option maxHeartbeats 1000000 in
theorem r_runHits {j e : Nat} {s : Nat → Int32} {a : Nat → Nat → Int32} {g : Nat → Option Nat} {ms : Nat → Int32} {ma : Nat → Nat → Int32} {rs : Nat → Nat → Nat} {ss : Nat → Nat → Int32} {ca : Nat → Nat → Nat → Int32} (H : zGC j e s a g ms ma rs ss ca) : ∃ (x : Int32 × Int32 × Int32 × Int32 × Int32 × Int32 × Int32 × Int32 × Int32 × Int32 × (Nat → Int32) × (Nat → Int32) × (Nat → Int32) × (Nat → Int32) × (Nat → Int32) × (Nat → Int32)) (y : Int32 × Int32 × Int32 × Int32 × Int32 × Int32 × Int32 × Int32 × Int32 × Int32 × (Nat → Int32) × (Nat → Int32)), fX5_runHits (s 1) (s 3) (s 4) (s 5) (s 6) (s 8) (s 9) (s 37) (s 38) (s 39) (s 40) (s 41) (s 42) (s 43) (s 44) (a 4) (a 5) (a 6) (a 7) (a 8) (a 34) (a 32) (a 29) (a 33) (a 31) (a 30) = some x ∧ fX7_runHits (ms 0) (ms 1) (ms 2) (ms 13) (ms 14) (ms 15) (ms 16) (ms 17) (ms 18) (ms 26) (ms 27) (ms 30) (ms 31) (ms 34) (ma 6) (ma 3) (ma 13) (ma 12) (ma 16) (ma 11) (ma 14) (ma 15) = some y ∧ x.1 = y.1 ∧ zGC j e (zu (zu (zu (zu (zu (zu (zu (zu (zu s 3 x.2.1) 37 x.2.2.1) 38 x.2.2.2.1) 39 x.2.2.2.2.1) 40 x.2.2.2.2.2.1) 41 x.2.2.2.2.2.2.1) 42 x.2.2.2.2.2.2.2.1) 43 x.2.2.2.2.2.2.2.2.1) 44 x.2.2.2.2.2.2.2.2.2.1) (zu (zu (zu (zu (zu (zu a 34 x.2.2.2.2.2.2.2.2.2.2.1) 32 x.2.2.2.2.2.2.2.2.2.2.2.1) 29 x.2.2.2.2.2.2.2.2.2.2.2.2.1) 33 x.2.2.2.2.2.2.2.2.2.2.2.2.2.1) 31 x.2.2.2.2.2.2.2.2.2.2.2.2.2.2.1) 30 x.2.2.2.2.2.2.2.2.2.2.2.2.2.2.2) g (zu (zu (zu (zu (zu (zu (zu (zu (zu ms 0 y.2.1) 1 y.2.2.1) 2 y.2.2.2.1) 13 y.2.2.2.2.1) 14 y.2.2.2.2.2.1) 15 y.2.2.2.2.2.2.1) 16 y.2.2.2.2.2.2.2.1) 17 y.2.2.2.2.2.2.2.2.1) 18 y.2.2.2.2.2.2.2.2.2.1) (zu (zu ma 6 y.2.2.2.2.2.2.2.2.2.2.1) 3 y.2.2.2.2.2.2.2.2.2.2.2) rs ss ca := by
  obtain ⟨h1, hg, t, nc, p, nl, r, A, I, hnc, h0, hP, hN, hi⟩ := H
  obtain ⟨hpo, hpx, hfk, hl1, hl2, hpm⟩ := id hP
  obtain ⟨hb, hcl, hmo⟩ := id hN
  have hE : ∃ v' t' r' r2', fX5_runHits (s 1) (s 3) (s 4) (s 5) (s 6) (s 8) (s 9) (s 37) (s 38) (s 39) (s 40) (s 41) (s 42) (s 43) (s 44) (a 4) (a 5) (a 6) (a 7) (a 8) (a 34) (a 32) (a 29) (a 33) (a 31) (a 30) = some (v', t', r') ∧ fX7_runHits (ms 0) (ms 1) (ms 2) (ms 13) (ms 14) (ms 15) (ms 16) (ms 17) (ms 18) (ms 26) (ms 27) (ms 30) (ms 31) (ms 34) (ma 6) (ma 3) (ma 13) (ma 12) (ma 16) (ma 11) (ma 14) (ma 15) = some (v', 0, t', -1, r2') := by
    rw [h1]
    exact m_runHits hpo hpx hpm 
  obtain ⟨v', t', r', r2', e1, e2⟩ := hE
  have h4 := zal_at (t4_runHits _ _ _ _ _ _ _ _ _ _ _ _ _ _ _ _ _ _ _ _ _ _ _ _ _ _) e1
  exact ⟨_, _, e1, e2, rfl, h1, hg, t, nc, p, nl, r, A, I, hnc, zB0_q (t' := t') h0 h4 rfl rfl rfl rfl rfl rfl rfl rfl rfl, hP, hN, hi⟩
set_option maxHeartbeats 1000000 in
theorem r_runVictims {j e : Nat} {s : Nat → Int32} {a : Nat → Nat → Int32} {g : Nat → Option Nat} {ms : Nat → Int32} {ma : Nat → Nat → Int32} {rs : Nat → Nat → Nat} {ss : Nat → Nat → Int32} {ca : Nat → Nat → Nat → Int32} (H : zGC j e s a g ms ma rs ss ca) : ∃ (x : Int32 × Int32 × Int32 × Int32 × Int32 × Int32 × Int32 × Int32 × Int32 × Int32 × (Nat → Int32) × (Nat → Int32) × (Nat → Int32) × (Nat → Int32) × (Nat → Int32) × (Nat → Int32)) (y : Int32 × Int32 × Int32 × Int32 × Int32 × Int32 × Int32 × Int32 × Int32 × Int32 × (Nat → Int32) × (Nat → Int32)), fX5_runVictims (s 1) (s 3) (s 4) (s 5) (s 6) (s 8) (s 9) (s 37) (s 38) (s 39) (s 40) (s 41) (s 42) (s 43) (s 44) (a 4) (a 5) (a 6) (a 7) (a 8) (a 34) (a 32) (a 29) (a 33) (a 31) (a 30) = some x ∧ fX7_runVictims (ms 0) (ms 1) (ms 2) (ms 13) (ms 14) (ms 15) (ms 16) (ms 17) (ms 18) (ms 26) (ms 27) (ms 30) (ms 31) (ms 34) (ma 6) (ma 3) (ma 13) (ma 12) (ma 16) (ma 11) (ma 14) (ma 15) = some y ∧ x.1 = y.1 ∧ zGC j e (zu (zu (zu (zu (zu (zu (zu (zu (zu s 3 x.2.1) 37 x.2.2.1) 38 x.2.2.2.1) 39 x.2.2.2.2.1) 40 x.2.2.2.2.2.1) 41 x.2.2.2.2.2.2.1) 42 x.2.2.2.2.2.2.2.1) 43 x.2.2.2.2.2.2.2.2.1) 44 x.2.2.2.2.2.2.2.2.2.1) (zu (zu (zu (zu (zu (zu a 34 x.2.2.2.2.2.2.2.2.2.2.1) 32 x.2.2.2.2.2.2.2.2.2.2.2.1) 29 x.2.2.2.2.2.2.2.2.2.2.2.2.1) 33 x.2.2.2.2.2.2.2.2.2.2.2.2.2.1) 31 x.2.2.2.2.2.2.2.2.2.2.2.2.2.2.1) 30 x.2.2.2.2.2.2.2.2.2.2.2.2.2.2.2) g (zu (zu (zu (zu (zu (zu (zu (zu (zu ms 0 y.2.1) 1 y.2.2.1) 2 y.2.2.2.1) 13 y.2.2.2.2.1) 14 y.2.2.2.2.2.1) 15 y.2.2.2.2.2.2.1) 16 y.2.2.2.2.2.2.2.1) 17 y.2.2.2.2.2.2.2.2.1) 18 y.2.2.2.2.2.2.2.2.2.1) (zu (zu ma 6 y.2.2.2.2.2.2.2.2.2.2.1) 3 y.2.2.2.2.2.2.2.2.2.2.2) rs ss ca := by
  obtain ⟨h1, hg, t, nc, p, nl, r, A, I, hnc, h0, hP, hN, hi⟩ := H
  obtain ⟨hpo, hpx, hfk, hl1, hl2, hpm⟩ := id hP
  obtain ⟨hb, hcl, hmo⟩ := id hN
  have hE : ∃ v' t' r' r2', fX5_runVictims (s 1) (s 3) (s 4) (s 5) (s 6) (s 8) (s 9) (s 37) (s 38) (s 39) (s 40) (s 41) (s 42) (s 43) (s 44) (a 4) (a 5) (a 6) (a 7) (a 8) (a 34) (a 32) (a 29) (a 33) (a 31) (a 30) = some (v', t', r') ∧ fX7_runVictims (ms 0) (ms 1) (ms 2) (ms 13) (ms 14) (ms 15) (ms 16) (ms 17) (ms 18) (ms 26) (ms 27) (ms 30) (ms 31) (ms 34) (ma 6) (ma 3) (ma 13) (ma 12) (ma 16) (ma 11) (ma 14) (ma 15) = some (v', 0, t', -1, r2') := by
    rw [h1]
    exact m_runVictims hpo hpx hpm 
  obtain ⟨v', t', r', r2', e1, e2⟩ := hE
  have h4 := zal_at (t4_runVictims _ _ _ _ _ _ _ _ _ _ _ _ _ _ _ _ _ _ _ _ _ _ _ _ _ _) e1
  exact ⟨_, _, e1, e2, rfl, h1, hg, t, nc, p, nl, r, A, I, hnc, zB0_q (t' := t') h0 h4 rfl rfl rfl rfl rfl rfl rfl rfl rfl, hP, hN, hi⟩
set_option maxHeartbeats 1000000 in
theorem r_runBacks {j e : Nat} {s : Nat → Int32} {a : Nat → Nat → Int32} {g : Nat → Option Nat} {ms : Nat → Int32} {ma : Nat → Nat → Int32} {rs : Nat → Nat → Nat} {ss : Nat → Nat → Int32} {ca : Nat → Nat → Nat → Int32} (H : zGC j e s a g ms ma rs ss ca) : ∃ (x : Int32 × Int32 × Int32 × Int32 × Int32 × Int32 × Int32 × Int32 × Int32 × Int32 × (Nat → Int32) × (Nat → Int32) × (Nat → Int32) × (Nat → Int32) × (Nat → Int32) × (Nat → Int32)) (y : Int32 × Int32 × Int32 × Int32 × Int32 × Int32 × Int32 × Int32 × Int32 × Int32 × (Nat → Int32) × (Nat → Int32)), fX5_runBacks (s 1) (s 3) (s 4) (s 5) (s 6) (s 8) (s 9) (s 37) (s 38) (s 39) (s 40) (s 41) (s 42) (s 43) (s 44) (a 4) (a 5) (a 6) (a 7) (a 8) (a 34) (a 32) (a 29) (a 33) (a 31) (a 30) = some x ∧ fX7_runBacks (ms 0) (ms 1) (ms 2) (ms 13) (ms 14) (ms 15) (ms 16) (ms 17) (ms 18) (ms 26) (ms 27) (ms 30) (ms 31) (ms 34) (ma 6) (ma 3) (ma 13) (ma 12) (ma 16) (ma 11) (ma 14) (ma 15) = some y ∧ x.1 = y.1 ∧ zGC j e (zu (zu (zu (zu (zu (zu (zu (zu (zu s 3 x.2.1) 37 x.2.2.1) 38 x.2.2.2.1) 39 x.2.2.2.2.1) 40 x.2.2.2.2.2.1) 41 x.2.2.2.2.2.2.1) 42 x.2.2.2.2.2.2.2.1) 43 x.2.2.2.2.2.2.2.2.1) 44 x.2.2.2.2.2.2.2.2.2.1) (zu (zu (zu (zu (zu (zu a 34 x.2.2.2.2.2.2.2.2.2.2.1) 32 x.2.2.2.2.2.2.2.2.2.2.2.1) 29 x.2.2.2.2.2.2.2.2.2.2.2.2.1) 33 x.2.2.2.2.2.2.2.2.2.2.2.2.2.1) 31 x.2.2.2.2.2.2.2.2.2.2.2.2.2.2.1) 30 x.2.2.2.2.2.2.2.2.2.2.2.2.2.2.2) g (zu (zu (zu (zu (zu (zu (zu (zu (zu ms 0 y.2.1) 1 y.2.2.1) 2 y.2.2.2.1) 13 y.2.2.2.2.1) 14 y.2.2.2.2.2.1) 15 y.2.2.2.2.2.2.1) 16 y.2.2.2.2.2.2.2.1) 17 y.2.2.2.2.2.2.2.2.1) 18 y.2.2.2.2.2.2.2.2.2.1) (zu (zu ma 6 y.2.2.2.2.2.2.2.2.2.2.1) 3 y.2.2.2.2.2.2.2.2.2.2.2) rs ss ca := by
  obtain ⟨h1, hg, t, nc, p, nl, r, A, I, hnc, h0, hP, hN, hi⟩ := H
  obtain ⟨hpo, hpx, hfk, hl1, hl2, hpm⟩ := id hP
  obtain ⟨hb, hcl, hmo⟩ := id hN
  have hE : ∃ v' t' r' r2', fX5_runBacks (s 1) (s 3) (s 4) (s 5) (s 6) (s 8) (s 9) (s 37) (s 38) (s 39) (s 40) (s 41) (s 42) (s 43) (s 44) (a 4) (a 5) (a 6) (a 7) (a 8) (a 34) (a 32) (a 29) (a 33) (a 31) (a 30) = some (v', t', r') ∧ fX7_runBacks (ms 0) (ms 1) (ms 2) (ms 13) (ms 14) (ms 15) (ms 16) (ms 17) (ms 18) (ms 26) (ms 27) (ms 30) (ms 31) (ms 34) (ma 6) (ma 3) (ma 13) (ma 12) (ma 16) (ma 11) (ma 14) (ma 15) = some (v', 0, t', -1, r2') := by
    rw [h1]
    exact m_runBacks hpo hpx hpm 
  obtain ⟨v', t', r', r2', e1, e2⟩ := hE
  have h4 := zal_at (t4_runBacks _ _ _ _ _ _ _ _ _ _ _ _ _ _ _ _ _ _ _ _ _ _ _ _ _ _) e1
  exact ⟨_, _, e1, e2, rfl, h1, hg, t, nc, p, nl, r, A, I, hnc, zB0_q (t' := t') h0 h4 rfl rfl rfl rfl rfl rfl rfl rfl rfl, hP, hN, hi⟩
set_option maxHeartbeats 1000000 in
theorem r_runStep {j e : Nat} {s : Nat → Int32} {a : Nat → Nat → Int32} {g : Nat → Option Nat} {ms : Nat → Int32} {ma : Nat → Nat → Int32} {rs : Nat → Nat → Nat} {ss : Nat → Nat → Int32} {ca : Nat → Nat → Nat → Int32} (H : zGC j e s a g ms ma rs ss ca) (a1 : Int32) : ∃ (x : Int32 × Int32 × Int32 × Int32 × Int32 × Int32 × Int32 × Int32 × Int32 × Int32 × (Nat → Int32) × (Nat → Int32) × (Nat → Int32) × (Nat → Int32) × (Nat → Int32) × (Nat → Int32)) (y : Int32 × Int32 × Int32 × Int32 × Int32 × Int32 × Int32 × Int32 × Int32 × Int32 × (Nat → Int32) × (Nat → Int32)), fX5_runStep (s 1) (s 3) (s 4) (s 5) (s 6) (s 8) (s 9) (s 37) (s 38) (s 39) (s 40) (s 41) (s 42) (s 43) (s 44) (a 4) (a 5) (a 6) (a 7) (a 8) (a 34) (a 32) (a 29) (a 33) (a 31) (a 30) a1 = some x ∧ fX7_runStep (ms 0) (ms 1) (ms 2) (ms 13) (ms 14) (ms 15) (ms 16) (ms 17) (ms 18) (ms 26) (ms 27) (ms 30) (ms 31) (ms 34) (ma 6) (ma 3) (ma 13) (ma 12) (ma 16) (ma 11) (ma 14) (ma 15) a1 = some y ∧ x.1 = y.1 ∧ zGC j e (zu (zu (zu (zu (zu (zu (zu (zu (zu s 3 x.2.1) 37 x.2.2.1) 38 x.2.2.2.1) 39 x.2.2.2.2.1) 40 x.2.2.2.2.2.1) 41 x.2.2.2.2.2.2.1) 42 x.2.2.2.2.2.2.2.1) 43 x.2.2.2.2.2.2.2.2.1) 44 x.2.2.2.2.2.2.2.2.2.1) (zu (zu (zu (zu (zu (zu a 34 x.2.2.2.2.2.2.2.2.2.2.1) 32 x.2.2.2.2.2.2.2.2.2.2.2.1) 29 x.2.2.2.2.2.2.2.2.2.2.2.2.1) 33 x.2.2.2.2.2.2.2.2.2.2.2.2.2.1) 31 x.2.2.2.2.2.2.2.2.2.2.2.2.2.2.1) 30 x.2.2.2.2.2.2.2.2.2.2.2.2.2.2.2) g (zu (zu (zu (zu (zu (zu (zu (zu (zu ms 0 y.2.1) 1 y.2.2.1) 2 y.2.2.2.1) 13 y.2.2.2.2.1) 14 y.2.2.2.2.2.1) 15 y.2.2.2.2.2.2.1) 16 y.2.2.2.2.2.2.2.1) 17 y.2.2.2.2.2.2.2.2.1) 18 y.2.2.2.2.2.2.2.2.2.1) (zu (zu ma 6 y.2.2.2.2.2.2.2.2.2.2.1) 3 y.2.2.2.2.2.2.2.2.2.2.2) rs ss ca := by
  obtain ⟨h1, hg, t, nc, p, nl, r, A, I, hnc, h0, hP, hN, hi⟩ := H
  obtain ⟨hpo, hpx, hfk, hl1, hl2, hpm⟩ := id hP
  obtain ⟨hb, hcl, hmo⟩ := id hN
  have hE : ∃ v' t' r' r2', fX5_runStep (s 1) (s 3) (s 4) (s 5) (s 6) (s 8) (s 9) (s 37) (s 38) (s 39) (s 40) (s 41) (s 42) (s 43) (s 44) (a 4) (a 5) (a 6) (a 7) (a 8) (a 34) (a 32) (a 29) (a 33) (a 31) (a 30) a1 = some (v', t', r') ∧ fX7_runStep (ms 0) (ms 1) (ms 2) (ms 13) (ms 14) (ms 15) (ms 16) (ms 17) (ms 18) (ms 26) (ms 27) (ms 30) (ms 31) (ms 34) (ma 6) (ma 3) (ma 13) (ma 12) (ma 16) (ma 11) (ma 14) (ma 15) a1 = some (v', 0, t', -1, r2') := by
    rw [h1]
    exact m_runStep hpo hpx hpm a1
  obtain ⟨v', t', r', r2', e1, e2⟩ := hE
  have h4 := zal_at (t4_runStep _ _ _ _ _ _ _ _ _ _ _ _ _ _ _ _ _ _ _ _ _ _ _ _ _ _ _) e1
  exact ⟨_, _, e1, e2, rfl, h1, hg, t, nc, p, nl, r, A, I, hnc, zB0_q (t' := t') h0 h4 rfl rfl rfl rfl rfl rfl rfl rfl rfl, hP, hN, hi⟩
set_option maxHeartbeats 1000000 in
theorem r_plainHits {j e : Nat} {s : Nat → Int32} {a : Nat → Nat → Int32} {g : Nat → Option Nat} {ms : Nat → Int32} {ma : Nat → Nat → Int32} {rs : Nat → Nat → Nat} {ss : Nat → Nat → Int32} {ca : Nat → Nat → Nat → Int32} (H : zGC j e s a g ms ma rs ss ca) : ∃ (x : Int32 × Int32 × Int32 × Int32 × Int32 × Int32 × Int32 × Int32 × Int32 × Int32 × (Nat → Int32) × (Nat → Int32) × (Nat → Int32) × (Nat → Int32) × (Nat → Int32) × (Nat → Int32)) (y : Int32 × Int32 × Int32 × Int32 × Int32 × Int32 × (Nat → Int32) × (Nat → Int32)), fX5_plainHits (s 1) (s 3) (s 4) (s 5) (s 6) (s 8) (s 9) (s 37) (s 38) (s 39) (s 40) (s 41) (s 42) (s 43) (s 44) (a 4) (a 5) (a 6) (a 7) (a 8) (a 34) (a 32) (a 29) (a 33) (a 31) (a 30) = some x ∧ fX7_plainHits (ms 0) (ms 1) (ms 2) (ms 19) (ms 20) (ms 26) (ms 27) (ms 30) (ma 8) (ma 7) (ma 12) (ma 14) = some y ∧ x.1 = y.1 ∧ zGC j e (zu (zu (zu (zu (zu (zu (zu (zu (zu s 3 x.2.1) 37 x.2.2.1) 38 x.2.2.2.1) 39 x.2.2.2.2.1) 40 x.2.2.2.2.2.1) 41 x.2.2.2.2.2.2.1) 42 x.2.2.2.2.2.2.2.1) 43 x.2.2.2.2.2.2.2.2.1) 44 x.2.2.2.2.2.2.2.2.2.1) (zu (zu (zu (zu (zu (zu a 34 x.2.2.2.2.2.2.2.2.2.2.1) 32 x.2.2.2.2.2.2.2.2.2.2.2.1) 29 x.2.2.2.2.2.2.2.2.2.2.2.2.1) 33 x.2.2.2.2.2.2.2.2.2.2.2.2.2.1) 31 x.2.2.2.2.2.2.2.2.2.2.2.2.2.2.1) 30 x.2.2.2.2.2.2.2.2.2.2.2.2.2.2.2) g (zu (zu (zu (zu (zu ms 0 y.2.1) 1 y.2.2.1) 2 y.2.2.2.1) 19 y.2.2.2.2.1) 20 y.2.2.2.2.2.1) (zu (zu ma 8 y.2.2.2.2.2.2.1) 7 y.2.2.2.2.2.2.2) rs ss ca := by
  obtain ⟨h1, hg, t, nc, p, nl, r, A, I, hnc, h0, hP, hN, hi⟩ := H
  obtain ⟨hpo, hpx, hfk, hl1, hl2, hpm⟩ := id hP
  obtain ⟨hb, hcl, hmo⟩ := id hN
  have hE : ∃ v' t' r' r2', fX5_plainHits (s 1) (s 3) (s 4) (s 5) (s 6) (s 8) (s 9) (s 37) (s 38) (s 39) (s 40) (s 41) (s 42) (s 43) (s 44) (a 4) (a 5) (a 6) (a 7) (a 8) (a 34) (a 32) (a 29) (a 33) (a 31) (a 30) = some (v', t', r') ∧ fX7_plainHits (ms 0) (ms 1) (ms 2) (ms 19) (ms 20) (ms 26) (ms 27) (ms 30) (ma 8) (ma 7) (ma 12) (ma 14) = some (v', 0, t', -1, r2') := by
    rw [h1]
    exact m_plainHits hpo hpx hpm 
  obtain ⟨v', t', r', r2', e1, e2⟩ := hE
  have h4 := zal_at (t4_plainHits _ _ _ _ _ _ _ _ _ _ _ _ _ _ _ _ _ _ _ _ _ _ _ _ _ _) e1
  exact ⟨_, _, e1, e2, rfl, h1, hg, t, nc, p, nl, r, A, I, hnc, zB0_q (t' := t') h0 h4 rfl rfl rfl rfl rfl rfl rfl rfl rfl, hP, hN, hi⟩
set_option maxHeartbeats 1000000 in
theorem r_plainBacks {j e : Nat} {s : Nat → Int32} {a : Nat → Nat → Int32} {g : Nat → Option Nat} {ms : Nat → Int32} {ma : Nat → Nat → Int32} {rs : Nat → Nat → Nat} {ss : Nat → Nat → Int32} {ca : Nat → Nat → Nat → Int32} (H : zGC j e s a g ms ma rs ss ca) : ∃ (x : Int32 × Int32 × Int32 × Int32 × Int32 × Int32 × Int32 × Int32 × Int32 × Int32 × (Nat → Int32) × (Nat → Int32) × (Nat → Int32) × (Nat → Int32) × (Nat → Int32) × (Nat → Int32)) (y : Int32 × Int32 × Int32 × Int32 × Int32 × Int32 × (Nat → Int32) × (Nat → Int32)), fX5_plainBacks (s 1) (s 3) (s 4) (s 5) (s 6) (s 8) (s 9) (s 37) (s 38) (s 39) (s 40) (s 41) (s 42) (s 43) (s 44) (a 4) (a 5) (a 6) (a 7) (a 8) (a 34) (a 32) (a 29) (a 33) (a 31) (a 30) = some x ∧ fX7_plainBacks (ms 0) (ms 1) (ms 2) (ms 19) (ms 20) (ms 26) (ms 27) (ms 30) (ma 8) (ma 7) (ma 12) (ma 14) = some y ∧ x.1 = y.1 ∧ zGC j e (zu (zu (zu (zu (zu (zu (zu (zu (zu s 3 x.2.1) 37 x.2.2.1) 38 x.2.2.2.1) 39 x.2.2.2.2.1) 40 x.2.2.2.2.2.1) 41 x.2.2.2.2.2.2.1) 42 x.2.2.2.2.2.2.2.1) 43 x.2.2.2.2.2.2.2.2.1) 44 x.2.2.2.2.2.2.2.2.2.1) (zu (zu (zu (zu (zu (zu a 34 x.2.2.2.2.2.2.2.2.2.2.1) 32 x.2.2.2.2.2.2.2.2.2.2.2.1) 29 x.2.2.2.2.2.2.2.2.2.2.2.2.1) 33 x.2.2.2.2.2.2.2.2.2.2.2.2.2.1) 31 x.2.2.2.2.2.2.2.2.2.2.2.2.2.2.1) 30 x.2.2.2.2.2.2.2.2.2.2.2.2.2.2.2) g (zu (zu (zu (zu (zu ms 0 y.2.1) 1 y.2.2.1) 2 y.2.2.2.1) 19 y.2.2.2.2.1) 20 y.2.2.2.2.2.1) (zu (zu ma 8 y.2.2.2.2.2.2.1) 7 y.2.2.2.2.2.2.2) rs ss ca := by
  obtain ⟨h1, hg, t, nc, p, nl, r, A, I, hnc, h0, hP, hN, hi⟩ := H
  obtain ⟨hpo, hpx, hfk, hl1, hl2, hpm⟩ := id hP
  obtain ⟨hb, hcl, hmo⟩ := id hN
  have hE : ∃ v' t' r' r2', fX5_plainBacks (s 1) (s 3) (s 4) (s 5) (s 6) (s 8) (s 9) (s 37) (s 38) (s 39) (s 40) (s 41) (s 42) (s 43) (s 44) (a 4) (a 5) (a 6) (a 7) (a 8) (a 34) (a 32) (a 29) (a 33) (a 31) (a 30) = some (v', t', r') ∧ fX7_plainBacks (ms 0) (ms 1) (ms 2) (ms 19) (ms 20) (ms 26) (ms 27) (ms 30) (ma 8) (ma 7) (ma 12) (ma 14) = some (v', 0, t', -1, r2') := by
    rw [h1]
    exact m_plainBacks hpo hpx hpm 
  obtain ⟨v', t', r', r2', e1, e2⟩ := hE
  have h4 := zal_at (t4_plainBacks _ _ _ _ _ _ _ _ _ _ _ _ _ _ _ _ _ _ _ _ _ _ _ _ _ _) e1
  exact ⟨_, _, e1, e2, rfl, h1, hg, t, nc, p, nl, r, A, I, hnc, zB0_q (t' := t') h0 h4 rfl rfl rfl rfl rfl rfl rfl rfl rfl, hP, hN, hi⟩
set_option maxHeartbeats 1000000 in
theorem r_hitsBy {j e : Nat} {s : Nat → Int32} {a : Nat → Nat → Int32} {g : Nat → Option Nat} {ms : Nat → Int32} {ma : Nat → Nat → Int32} {rs : Nat → Nat → Nat} {ss : Nat → Nat → Int32} {ca : Nat → Nat → Nat → Int32} (H : zGC j e s a g ms ma rs ss ca) (a1 : Int32) : ∃ (x : Int32 × Int32 × Int32 × Int32 × Int32 × Int32 × Int32 × Int32 × Int32 × Int32 × (Nat → Int32) × (Nat → Int32) × (Nat → Int32) × (Nat → Int32) × (Nat → Int32) × (Nat → Int32)) (y : Int32 × Int32 × Int32 × Int32 × Int32 × Int32 × Int32 × Int32 × Int32 × Int32 × (Nat → Int32) × (Nat → Int32)), fX5_hitsBy (s 1) (s 3) (s 4) (s 6) (s 8) (s 9) (s 37) (s 38) (s 39) (s 40) (s 41) (s 42) (s 43) (s 44) (a 4) (a 5) (a 6) (a 7) (a 8) (a 34) (a 32) (a 29) (a 33) (a 31) (a 30) a1 = some x ∧ fX7_hitsBy (ms 0) (ms 1) (ms 2) (ms 13) (ms 14) (ms 15) (ms 16) (ms 17) (ms 18) (ms 26) (ms 27) (ms 30) (ms 31) (ms 34) (ma 6) (ma 3) (ma 13) (ma 12) (ma 16) (ma 11) (ma 14) (ma 15) a1 = some y ∧ x.1 = y.1 ∧ zGC j e (zu (zu (zu (zu (zu (zu (zu (zu (zu s 3 x.2.1) 37 x.2.2.1) 38 x.2.2.2.1) 39 x.2.2.2.2.1) 40 x.2.2.2.2.2.1) 41 x.2.2.2.2.2.2.1) 42 x.2.2.2.2.2.2.2.1) 43 x.2.2.2.2.2.2.2.2.1) 44 x.2.2.2.2.2.2.2.2.2.1) (zu (zu (zu (zu (zu (zu a 34 x.2.2.2.2.2.2.2.2.2.2.1) 32 x.2.2.2.2.2.2.2.2.2.2.2.1) 29 x.2.2.2.2.2.2.2.2.2.2.2.2.1) 33 x.2.2.2.2.2.2.2.2.2.2.2.2.2.1) 31 x.2.2.2.2.2.2.2.2.2.2.2.2.2.2.1) 30 x.2.2.2.2.2.2.2.2.2.2.2.2.2.2.2) g (zu (zu (zu (zu (zu (zu (zu (zu (zu ms 0 y.2.1) 1 y.2.2.1) 2 y.2.2.2.1) 13 y.2.2.2.2.1) 14 y.2.2.2.2.2.1) 15 y.2.2.2.2.2.2.1) 16 y.2.2.2.2.2.2.2.1) 17 y.2.2.2.2.2.2.2.2.1) 18 y.2.2.2.2.2.2.2.2.2.1) (zu (zu ma 6 y.2.2.2.2.2.2.2.2.2.2.1) 3 y.2.2.2.2.2.2.2.2.2.2.2) rs ss ca := by
  obtain ⟨h1, hg, t, nc, p, nl, r, A, I, hnc, h0, hP, hN, hi⟩ := H
  obtain ⟨hpo, hpx, hfk, hl1, hl2, hpm⟩ := id hP
  obtain ⟨hb, hcl, hmo⟩ := id hN
  have hE : ∃ v' t' r' r2', fX5_hitsBy (s 1) (s 3) (s 4) (s 6) (s 8) (s 9) (s 37) (s 38) (s 39) (s 40) (s 41) (s 42) (s 43) (s 44) (a 4) (a 5) (a 6) (a 7) (a 8) (a 34) (a 32) (a 29) (a 33) (a 31) (a 30) a1 = some (v', t', r') ∧ fX7_hitsBy (ms 0) (ms 1) (ms 2) (ms 13) (ms 14) (ms 15) (ms 16) (ms 17) (ms 18) (ms 26) (ms 27) (ms 30) (ms 31) (ms 34) (ma 6) (ma 3) (ma 13) (ma 12) (ma 16) (ma 11) (ma 14) (ma 15) a1 = some (v', 0, t', -1, r2') := by
    rw [h1]
    exact m_hitsBy hpo hpx hpm a1
  obtain ⟨v', t', r', r2', e1, e2⟩ := hE
  have h4 := zal_at (t4_hitsBy _ _ _ _ _ _ _ _ _ _ _ _ _ _ _ _ _ _ _ _ _ _ _ _ _ _) e1
  exact ⟨_, _, e1, e2, rfl, h1, hg, t, nc, p, nl, r, A, I, hnc, zB0_q (t' := t') h0 h4 rfl rfl rfl rfl rfl rfl rfl rfl rfl, hP, hN, hi⟩
set_option maxHeartbeats 1000000 in
theorem r_waysFor {j e : Nat} {s : Nat → Int32} {a : Nat → Nat → Int32} {g : Nat → Option Nat} {ms : Nat → Int32} {ma : Nat → Nat → Int32} {rs : Nat → Nat → Nat} {ss : Nat → Nat → Int32} {ca : Nat → Nat → Nat → Int32} (H : zGC j e s a g ms ma rs ss ca) (a1 : Int32) : ∃ (x : Int32 × Int32 × Int32 × Int32 × Int32 × Int32 × Int32 × Int32 × Int32 × Int32 × (Nat → Int32) × (Nat → Int32) × (Nat → Int32) × (Nat → Int32) × (Nat → Int32) × (Nat → Int32)) (y : Int32 × Int32 × Int32 × Int32 × Int32 × Int32 × Int32 × Int32 × Int32 × Int32 × (Nat → Int32) × (Nat → Int32)), fX5_waysFor (s 1) (s 3) (s 4) (s 6) (s 8) (s 9) (s 37) (s 38) (s 39) (s 40) (s 41) (s 42) (s 43) (s 44) (a 4) (a 5) (a 6) (a 7) (a 8) (a 34) (a 32) (a 29) (a 33) (a 31) (a 30) a1 = some x ∧ fX7_waysFor (ms 0) (ms 1) (ms 2) (ms 13) (ms 14) (ms 15) (ms 16) (ms 17) (ms 18) (ms 26) (ms 27) (ms 30) (ms 31) (ms 34) (ma 6) (ma 3) (ma 13) (ma 12) (ma 16) (ma 11) (ma 14) (ma 15) a1 = some y ∧ x.1 = y.1 ∧ zGC j e (zu (zu (zu (zu (zu (zu (zu (zu (zu s 3 x.2.1) 37 x.2.2.1) 38 x.2.2.2.1) 39 x.2.2.2.2.1) 40 x.2.2.2.2.2.1) 41 x.2.2.2.2.2.2.1) 42 x.2.2.2.2.2.2.2.1) 43 x.2.2.2.2.2.2.2.2.1) 44 x.2.2.2.2.2.2.2.2.2.1) (zu (zu (zu (zu (zu (zu a 34 x.2.2.2.2.2.2.2.2.2.2.1) 32 x.2.2.2.2.2.2.2.2.2.2.2.1) 29 x.2.2.2.2.2.2.2.2.2.2.2.2.1) 33 x.2.2.2.2.2.2.2.2.2.2.2.2.2.1) 31 x.2.2.2.2.2.2.2.2.2.2.2.2.2.2.1) 30 x.2.2.2.2.2.2.2.2.2.2.2.2.2.2.2) g (zu (zu (zu (zu (zu (zu (zu (zu (zu ms 0 y.2.1) 1 y.2.2.1) 2 y.2.2.2.1) 13 y.2.2.2.2.1) 14 y.2.2.2.2.2.1) 15 y.2.2.2.2.2.2.1) 16 y.2.2.2.2.2.2.2.1) 17 y.2.2.2.2.2.2.2.2.1) 18 y.2.2.2.2.2.2.2.2.2.1) (zu (zu ma 6 y.2.2.2.2.2.2.2.2.2.2.1) 3 y.2.2.2.2.2.2.2.2.2.2.2) rs ss ca := by
  obtain ⟨h1, hg, t, nc, p, nl, r, A, I, hnc, h0, hP, hN, hi⟩ := H
  obtain ⟨hpo, hpx, hfk, hl1, hl2, hpm⟩ := id hP
  obtain ⟨hb, hcl, hmo⟩ := id hN
  have hE : ∃ v' t' r' r2', fX5_waysFor (s 1) (s 3) (s 4) (s 6) (s 8) (s 9) (s 37) (s 38) (s 39) (s 40) (s 41) (s 42) (s 43) (s 44) (a 4) (a 5) (a 6) (a 7) (a 8) (a 34) (a 32) (a 29) (a 33) (a 31) (a 30) a1 = some (v', t', r') ∧ fX7_waysFor (ms 0) (ms 1) (ms 2) (ms 13) (ms 14) (ms 15) (ms 16) (ms 17) (ms 18) (ms 26) (ms 27) (ms 30) (ms 31) (ms 34) (ma 6) (ma 3) (ma 13) (ma 12) (ma 16) (ma 11) (ma 14) (ma 15) a1 = some (v', 0, t', -1, r2') := by
    rw [h1]
    exact m_waysFor hpo hpx hpm a1
  obtain ⟨v', t', r', r2', e1, e2⟩ := hE
  have h4 := zal_at (t4_waysFor _ _ _ _ _ _ _ _ _ _ _ _ _ _ _ _ _ _ _ _ _ _ _ _ _ _) e1
  exact ⟨_, _, e1, e2, rfl, h1, hg, t, nc, p, nl, r, A, I, hnc, zB0_q (t' := t') h0 h4 rfl rfl rfl rfl rfl rfl rfl rfl rfl, hP, hN, hi⟩
set_option maxHeartbeats 1000000 in
theorem r_fits {j e : Nat} {s : Nat → Int32} {a : Nat → Nat → Int32} {g : Nat → Option Nat} {ms : Nat → Int32} {ma : Nat → Nat → Int32} {rs : Nat → Nat → Nat} {ss : Nat → Nat → Int32} {ca : Nat → Nat → Nat → Int32} (H : zGC j e s a g ms ma rs ss ca) : ∃ (x : Int32 × Int32 × Int32 × Int32 × Int32 × Int32 × Int32 × Int32 × Int32 × Int32 × Int32 × Int32 × (Nat → Int32) × (Nat → Int32) × (Nat → Int32) × (Nat → Int32) × (Nat → Int32) × (Nat → Int32)) (y : Int32 × Int32 × Int32 × Int32 × Int32 × Int32 × Int32 × Int32 × Int32 × Int32 × Int32 × Int32 × Int32 × (Nat → Int32) × (Nat → Int32) × (Nat → Int32)), fX5_fits (s 1) (s 3) (s 4) (s 5) (s 6) (s 8) (s 9) (s 10) (s 11) (s 12) (s 37) (s 38) (s 39) (s 40) (s 41) (s 42) (s 43) (s 44) (a 4) (a 10) (a 9) (a 5) (a 6) (a 7) (a 8) (a 34) (a 32) (a 29) (a 33) (a 31) (a 30) = some x ∧ fX7_fits (ms 0) (ms 1) (ms 2) (ms 13) (ms 14) (ms 15) (ms 16) (ms 17) (ms 18) (ms 21) (ms 22) (ms 23) (ms 26) (ms 27) (ms 30) (ms 31) (ms 32) (ms 33) (ms 34) (ma 6) (ma 9) (ma 3) (ma 13) (ma 12) (ma 16) (ma 11) (ma 14) (ma 17) (ma 15) = some y ∧ x.1 = y.1 ∧ zGC j e (zu (zu (zu (zu (zu (zu (zu (zu (zu (zu (zu s 3 x.2.1) 11 x.2.2.1) 12 x.2.2.2.1) 37 x.2.2.2.2.1) 38 x.2.2.2.2.2.1) 39 x.2.2.2.2.2.2.1) 40 x.2.2.2.2.2.2.2.1) 41 x.2.2.2.2.2.2.2.2.1) 42 x.2.2.2.2.2.2.2.2.2.1) 43 x.2.2.2.2.2.2.2.2.2.2.1) 44 x.2.2.2.2.2.2.2.2.2.2.2.1) (zu (zu (zu (zu (zu (zu a 34 x.2.2.2.2.2.2.2.2.2.2.2.2.1) 32 x.2.2.2.2.2.2.2.2.2.2.2.2.2.1) 29 x.2.2.2.2.2.2.2.2.2.2.2.2.2.2.1) 33 x.2.2.2.2.2.2.2.2.2.2.2.2.2.2.2.1) 31 x.2.2.2.2.2.2.2.2.2.2.2.2.2.2.2.2.1) 30 x.2.2.2.2.2.2.2.2.2.2.2.2.2.2.2.2.2) g (zu (zu (zu (zu (zu (zu (zu (zu (zu (zu (zu (zu ms 0 y.2.1) 1 y.2.2.1) 2 y.2.2.2.1) 13 y.2.2.2.2.1) 14 y.2.2.2.2.2.1) 15 y.2.2.2.2.2.2.1) 16 y.2.2.2.2.2.2.2.1) 17 y.2.2.2.2.2.2.2.2.1) 18 y.2.2.2.2.2.2.2.2.2.1) 21 y.2.2.2.2.2.2.2.2.2.2.1) 22 y.2.2.2.2.2.2.2.2.2.2.2.1) 23 y.2.2.2.2.2.2.2.2.2.2.2.2.1) (zu (zu (zu ma 6 y.2.2.2.2.2.2.2.2.2.2.2.2.2.1) 9 y.2.2.2.2.2.2.2.2.2.2.2.2.2.2.1) 3 y.2.2.2.2.2.2.2.2.2.2.2.2.2.2.2) rs ss ca := by
  obtain ⟨h1, hg, t, nc, p, nl, r, A, I, hnc, h0, hP, hN, hi⟩ := H
  obtain ⟨hpo, hpx, hfk, hl1, hl2, hpm⟩ := id hP
  obtain ⟨hb, hcl, hmo⟩ := id hN
  have hE : ∃ v' t' k2' b2' r' r2', fX5_fits (s 1) (s 3) (s 4) (s 5) (s 6) (s 8) (s 9) (s 10) (s 11) (s 12) (s 37) (s 38) (s 39) (s 40) (s 41) (s 42) (s 43) (s 44) (a 4) (a 10) (a 9) (a 5) (a 6) (a 7) (a 8) (a 34) (a 32) (a 29) (a 33) (a 31) (a 30) = some (v', t', k2', b2', r') ∧ zFK p k2' b2' ∧ fX7_fits (ms 0) (ms 1) (ms 2) (ms 13) (ms 14) (ms 15) (ms 16) (ms 17) (ms 18) (ms 21) (ms 22) (ms 23) (ms 26) (ms 27) (ms 30) (ms 31) (ms 32) (ms 33) (ms 34) (ma 6) (ma 9) (ma 3) (ma 13) (ma 12) (ma 16) (ma 11) (ma 14) (ma 17) (ma 15) = some (v', 0, t', -1, r2') := by
    rw [h1]
    exact m_fits hpo hpx hpm hfk 
  obtain ⟨v', t', k2', b2', r', r2', e1, hk2, e2⟩ := hE
  have h4 := zal_at (t4_fits _ _ _ _ _ _ _ _ _ _ _ _ _ _ _ _ _ _ _ _ _ _ _ _ _ _ _ _ _ _ _) e1
  exact ⟨_, _, e1, e2, rfl, h1, hg, t, nc, p, nl, r, A, I, hnc, zB0_q (t' := t') h0 h4 rfl rfl rfl rfl rfl rfl rfl rfl rfl, ⟨hpo, hpx, hk2, hl1, hl2, hpm⟩, hN, hi⟩
set_option maxHeartbeats 1000000 in
theorem r_fitAt {j e : Nat} {s : Nat → Int32} {a : Nat → Nat → Int32} {g : Nat → Option Nat} {ms : Nat → Int32} {ma : Nat → Nat → Int32} {rs : Nat → Nat → Nat} {ss : Nat → Nat → Int32} {ca : Nat → Nat → Nat → Int32} (H : zGC j e s a g ms ma rs ss ca) (a1 : Int32) : ∃ (x : Int32 × Int32 × Int32 × Int32 × Int32 × Int32 × Int32 × Int32 × Int32 × Int32 × Int32 × Int32 × (Nat → Int32) × (Nat → Int32) × (Nat → Int32) × (Nat → Int32) × (Nat → Int32) × (Nat → Int32)) (y : Int32 × Int32 × Int32 × Int32 × Int32 × Int32 × Int32 × Int32 × Int32 × Int32 × Int32 × Int32 × Int32 × (Nat → Int32) × (Nat → Int32) × (Nat → Int32)), fX5_fitAt (s 1) (s 3) (s 4) (s 5) (s 6) (s 8) (s 9) (s 10) (s 11) (s 12) (s 37) (s 38) (s 39) (s 40) (s 41) (s 42) (s 43) (s 44) (a 4) (a 10) (a 9) (a 5) (a 6) (a 7) (a 8) (a 34) (a 32) (a 29) (a 33) (a 31) (a 30) a1 = some x ∧ fX7_fitAt (ms 0) (ms 1) (ms 2) (ms 13) (ms 14) (ms 15) (ms 16) (ms 17) (ms 18) (ms 21) (ms 22) (ms 23) (ms 26) (ms 27) (ms 30) (ms 31) (ms 32) (ms 33) (ms 34) (ma 6) (ma 9) (ma 3) (ma 13) (ma 12) (ma 16) (ma 11) (ma 14) (ma 17) (ma 15) a1 = some y ∧ x.1 = y.1 ∧ zGC j e (zu (zu (zu (zu (zu (zu (zu (zu (zu (zu (zu s 3 x.2.1) 11 x.2.2.1) 12 x.2.2.2.1) 37 x.2.2.2.2.1) 38 x.2.2.2.2.2.1) 39 x.2.2.2.2.2.2.1) 40 x.2.2.2.2.2.2.2.1) 41 x.2.2.2.2.2.2.2.2.1) 42 x.2.2.2.2.2.2.2.2.2.1) 43 x.2.2.2.2.2.2.2.2.2.2.1) 44 x.2.2.2.2.2.2.2.2.2.2.2.1) (zu (zu (zu (zu (zu (zu a 34 x.2.2.2.2.2.2.2.2.2.2.2.2.1) 32 x.2.2.2.2.2.2.2.2.2.2.2.2.2.1) 29 x.2.2.2.2.2.2.2.2.2.2.2.2.2.2.1) 33 x.2.2.2.2.2.2.2.2.2.2.2.2.2.2.2.1) 31 x.2.2.2.2.2.2.2.2.2.2.2.2.2.2.2.2.1) 30 x.2.2.2.2.2.2.2.2.2.2.2.2.2.2.2.2.2) g (zu (zu (zu (zu (zu (zu (zu (zu (zu (zu (zu (zu ms 0 y.2.1) 1 y.2.2.1) 2 y.2.2.2.1) 13 y.2.2.2.2.1) 14 y.2.2.2.2.2.1) 15 y.2.2.2.2.2.2.1) 16 y.2.2.2.2.2.2.2.1) 17 y.2.2.2.2.2.2.2.2.1) 18 y.2.2.2.2.2.2.2.2.2.1) 21 y.2.2.2.2.2.2.2.2.2.2.1) 22 y.2.2.2.2.2.2.2.2.2.2.2.1) 23 y.2.2.2.2.2.2.2.2.2.2.2.2.1) (zu (zu (zu ma 6 y.2.2.2.2.2.2.2.2.2.2.2.2.2.1) 9 y.2.2.2.2.2.2.2.2.2.2.2.2.2.2.1) 3 y.2.2.2.2.2.2.2.2.2.2.2.2.2.2.2) rs ss ca := by
  obtain ⟨h1, hg, t, nc, p, nl, r, A, I, hnc, h0, hP, hN, hi⟩ := H
  obtain ⟨hpo, hpx, hfk, hl1, hl2, hpm⟩ := id hP
  obtain ⟨hb, hcl, hmo⟩ := id hN
  have hE : ∃ v' t' k2' b2' r' r2', fX5_fitAt (s 1) (s 3) (s 4) (s 5) (s 6) (s 8) (s 9) (s 10) (s 11) (s 12) (s 37) (s 38) (s 39) (s 40) (s 41) (s 42) (s 43) (s 44) (a 4) (a 10) (a 9) (a 5) (a 6) (a 7) (a 8) (a 34) (a 32) (a 29) (a 33) (a 31) (a 30) a1 = some (v', t', k2', b2', r') ∧ zFK p k2' b2' ∧ fX7_fitAt (ms 0) (ms 1) (ms 2) (ms 13) (ms 14) (ms 15) (ms 16) (ms 17) (ms 18) (ms 21) (ms 22) (ms 23) (ms 26) (ms 27) (ms 30) (ms 31) (ms 32) (ms 33) (ms 34) (ma 6) (ma 9) (ma 3) (ma 13) (ma 12) (ma 16) (ma 11) (ma 14) (ma 17) (ma 15) a1 = some (v', 0, t', -1, r2') := by
    rw [h1]
    exact m_fitAt hpo hpx hpm hfk a1
  obtain ⟨v', t', k2', b2', r', r2', e1, hk2, e2⟩ := hE
  have h4 := zal_at (t4_fitAt _ _ _ _ _ _ _ _ _ _ _ _ _ _ _ _ _ _ _ _ _ _ _ _ _ _ _ _ _ _ _ _) e1
  exact ⟨_, _, e1, e2, rfl, h1, hg, t, nc, p, nl, r, A, I, hnc, zB0_q (t' := t') h0 h4 rfl rfl rfl rfl rfl rfl rfl rfl rfl, ⟨hpo, hpx, hk2, hl1, hl2, hpm⟩, hN, hi⟩
set_option maxHeartbeats 1000000 in
theorem r_could {j e : Nat} {s : Nat → Int32} {a : Nat → Nat → Int32} {g : Nat → Option Nat} {ms : Nat → Int32} {ma : Nat → Nat → Int32} {rs : Nat → Nat → Nat} {ss : Nat → Nat → Int32} {ca : Nat → Nat → Nat → Int32} (H : zGC j e s a g ms ma rs ss ca) : ∃ (x : Int32 × Int32 × Int32 × Int32 × Int32 × Int32 × Int32 × Int32 × Int32 × Int32 × Int32 × Int32 × (Nat → Int32) × (Nat → Int32) × (Nat → Int32) × (Nat → Int32) × (Nat → Int32) × (Nat → Int32)) (y : Int32 × Int32 × Int32 × Int32 × Int32 × Int32 × Int32 × Int32 × Int32 × Int32 × Int32 × Int32 × Int32 × (Nat → Int32) × (Nat → Int32) × (Nat → Int32)), fX5_could (s 1) (s 3) (s 4) (s 5) (s 6) (s 8) (s 9) (s 10) (s 11) (s 12) (s 37) (s 38) (s 39) (s 40) (s 41) (s 42) (s 43) (s 44) (a 4) (a 10) (a 9) (a 5) (a 6) (a 7) (a 8) (a 34) (a 32) (a 29) (a 33) (a 31) (a 30) = some x ∧ fX7_could (ms 0) (ms 1) (ms 2) (ms 13) (ms 14) (ms 15) (ms 16) (ms 17) (ms 18) (ms 21) (ms 22) (ms 23) (ms 26) (ms 27) (ms 30) (ms 31) (ms 32) (ms 33) (ms 34) (ma 6) (ma 9) (ma 3) (ma 13) (ma 12) (ma 16) (ma 11) (ma 14) (ma 17) (ma 15) = some y ∧ x.1 = y.1 ∧ zGC j e (zu (zu (zu (zu (zu (zu (zu (zu (zu (zu (zu s 3 x.2.1) 11 x.2.2.1) 12 x.2.2.2.1) 37 x.2.2.2.2.1) 38 x.2.2.2.2.2.1) 39 x.2.2.2.2.2.2.1) 40 x.2.2.2.2.2.2.2.1) 41 x.2.2.2.2.2.2.2.2.1) 42 x.2.2.2.2.2.2.2.2.2.1) 43 x.2.2.2.2.2.2.2.2.2.2.1) 44 x.2.2.2.2.2.2.2.2.2.2.2.1) (zu (zu (zu (zu (zu (zu a 34 x.2.2.2.2.2.2.2.2.2.2.2.2.1) 32 x.2.2.2.2.2.2.2.2.2.2.2.2.2.1) 29 x.2.2.2.2.2.2.2.2.2.2.2.2.2.2.1) 33 x.2.2.2.2.2.2.2.2.2.2.2.2.2.2.2.1) 31 x.2.2.2.2.2.2.2.2.2.2.2.2.2.2.2.2.1) 30 x.2.2.2.2.2.2.2.2.2.2.2.2.2.2.2.2.2) g (zu (zu (zu (zu (zu (zu (zu (zu (zu (zu (zu (zu ms 0 y.2.1) 1 y.2.2.1) 2 y.2.2.2.1) 13 y.2.2.2.2.1) 14 y.2.2.2.2.2.1) 15 y.2.2.2.2.2.2.1) 16 y.2.2.2.2.2.2.2.1) 17 y.2.2.2.2.2.2.2.2.1) 18 y.2.2.2.2.2.2.2.2.2.1) 21 y.2.2.2.2.2.2.2.2.2.2.1) 22 y.2.2.2.2.2.2.2.2.2.2.2.1) 23 y.2.2.2.2.2.2.2.2.2.2.2.2.1) (zu (zu (zu ma 6 y.2.2.2.2.2.2.2.2.2.2.2.2.2.1) 9 y.2.2.2.2.2.2.2.2.2.2.2.2.2.2.1) 3 y.2.2.2.2.2.2.2.2.2.2.2.2.2.2.2) rs ss ca := by
  obtain ⟨h1, hg, t, nc, p, nl, r, A, I, hnc, h0, hP, hN, hi⟩ := H
  obtain ⟨hpo, hpx, hfk, hl1, hl2, hpm⟩ := id hP
  obtain ⟨hb, hcl, hmo⟩ := id hN
  have hE : ∃ v' t' k2' b2' r' r2', fX5_could (s 1) (s 3) (s 4) (s 5) (s 6) (s 8) (s 9) (s 10) (s 11) (s 12) (s 37) (s 38) (s 39) (s 40) (s 41) (s 42) (s 43) (s 44) (a 4) (a 10) (a 9) (a 5) (a 6) (a 7) (a 8) (a 34) (a 32) (a 29) (a 33) (a 31) (a 30) = some (v', t', k2', b2', r') ∧ zFK p k2' b2' ∧ fX7_could (ms 0) (ms 1) (ms 2) (ms 13) (ms 14) (ms 15) (ms 16) (ms 17) (ms 18) (ms 21) (ms 22) (ms 23) (ms 26) (ms 27) (ms 30) (ms 31) (ms 32) (ms 33) (ms 34) (ma 6) (ma 9) (ma 3) (ma 13) (ma 12) (ma 16) (ma 11) (ma 14) (ma 17) (ma 15) = some (v', 0, t', -1, r2') := by
    rw [h1]
    exact m_could hpo hpx hpm hfk 
  obtain ⟨v', t', k2', b2', r', r2', e1, hk2, e2⟩ := hE
  have h4 := zal_at (t4_could _ _ _ _ _ _ _ _ _ _ _ _ _ _ _ _ _ _ _ _ _ _ _ _ _ _ _ _ _ _ _) e1
  exact ⟨_, _, e1, e2, rfl, h1, hg, t, nc, p, nl, r, A, I, hnc, zB0_q (t' := t') h0 h4 rfl rfl rfl rfl rfl rfl rfl rfl rfl, ⟨hpo, hpx, hk2, hl1, hl2, hpm⟩, hN, hi⟩
set_option maxHeartbeats 1000000 in
theorem r_surely {j e : Nat} {s : Nat → Int32} {a : Nat → Nat → Int32} {g : Nat → Option Nat} {ms : Nat → Int32} {ma : Nat → Nat → Int32} {rs : Nat → Nat → Nat} {ss : Nat → Nat → Int32} {ca : Nat → Nat → Nat → Int32} (H : zGC j e s a g ms ma rs ss ca) : ∃ (x : Int32 × Int32 × Int32 × Int32 × Int32 × Int32 × Int32 × Int32 × Int32 × Int32 × Int32 × Int32 × (Nat → Int32) × (Nat → Int32) × (Nat → Int32) × (Nat → Int32) × (Nat → Int32) × (Nat → Int32)) (y : Int32 × Int32 × Int32 × Int32 × Int32 × Int32 × Int32 × Int32 × Int32 × Int32 × Int32 × Int32 × Int32 × (Nat → Int32) × (Nat → Int32) × (Nat → Int32)), fX5_surely (s 1) (s 3) (s 4) (s 5) (s 6) (s 8) (s 9) (s 10) (s 11) (s 12) (s 37) (s 38) (s 39) (s 40) (s 41) (s 42) (s 43) (s 44) (a 4) (a 10) (a 9) (a 5) (a 6) (a 7) (a 8) (a 34) (a 32) (a 29) (a 33) (a 31) (a 30) = some x ∧ fX7_surely (ms 0) (ms 1) (ms 2) (ms 13) (ms 14) (ms 15) (ms 16) (ms 17) (ms 18) (ms 21) (ms 22) (ms 23) (ms 26) (ms 27) (ms 30) (ms 31) (ms 32) (ms 33) (ms 34) (ma 6) (ma 9) (ma 3) (ma 13) (ma 12) (ma 16) (ma 11) (ma 14) (ma 17) (ma 15) = some y ∧ x.1 = y.1 ∧ zGC j e (zu (zu (zu (zu (zu (zu (zu (zu (zu (zu (zu s 3 x.2.1) 11 x.2.2.1) 12 x.2.2.2.1) 37 x.2.2.2.2.1) 38 x.2.2.2.2.2.1) 39 x.2.2.2.2.2.2.1) 40 x.2.2.2.2.2.2.2.1) 41 x.2.2.2.2.2.2.2.2.1) 42 x.2.2.2.2.2.2.2.2.2.1) 43 x.2.2.2.2.2.2.2.2.2.2.1) 44 x.2.2.2.2.2.2.2.2.2.2.2.1) (zu (zu (zu (zu (zu (zu a 34 x.2.2.2.2.2.2.2.2.2.2.2.2.1) 32 x.2.2.2.2.2.2.2.2.2.2.2.2.2.1) 29 x.2.2.2.2.2.2.2.2.2.2.2.2.2.2.1) 33 x.2.2.2.2.2.2.2.2.2.2.2.2.2.2.2.1) 31 x.2.2.2.2.2.2.2.2.2.2.2.2.2.2.2.2.1) 30 x.2.2.2.2.2.2.2.2.2.2.2.2.2.2.2.2.2) g (zu (zu (zu (zu (zu (zu (zu (zu (zu (zu (zu (zu ms 0 y.2.1) 1 y.2.2.1) 2 y.2.2.2.1) 13 y.2.2.2.2.1) 14 y.2.2.2.2.2.1) 15 y.2.2.2.2.2.2.1) 16 y.2.2.2.2.2.2.2.1) 17 y.2.2.2.2.2.2.2.2.1) 18 y.2.2.2.2.2.2.2.2.2.1) 21 y.2.2.2.2.2.2.2.2.2.2.1) 22 y.2.2.2.2.2.2.2.2.2.2.2.1) 23 y.2.2.2.2.2.2.2.2.2.2.2.2.1) (zu (zu (zu ma 6 y.2.2.2.2.2.2.2.2.2.2.2.2.2.1) 9 y.2.2.2.2.2.2.2.2.2.2.2.2.2.2.1) 3 y.2.2.2.2.2.2.2.2.2.2.2.2.2.2.2) rs ss ca := by
  obtain ⟨h1, hg, t, nc, p, nl, r, A, I, hnc, h0, hP, hN, hi⟩ := H
  obtain ⟨hpo, hpx, hfk, hl1, hl2, hpm⟩ := id hP
  obtain ⟨hb, hcl, hmo⟩ := id hN
  have hE : ∃ v' t' k2' b2' r' r2', fX5_surely (s 1) (s 3) (s 4) (s 5) (s 6) (s 8) (s 9) (s 10) (s 11) (s 12) (s 37) (s 38) (s 39) (s 40) (s 41) (s 42) (s 43) (s 44) (a 4) (a 10) (a 9) (a 5) (a 6) (a 7) (a 8) (a 34) (a 32) (a 29) (a 33) (a 31) (a 30) = some (v', t', k2', b2', r') ∧ zFK p k2' b2' ∧ fX7_surely (ms 0) (ms 1) (ms 2) (ms 13) (ms 14) (ms 15) (ms 16) (ms 17) (ms 18) (ms 21) (ms 22) (ms 23) (ms 26) (ms 27) (ms 30) (ms 31) (ms 32) (ms 33) (ms 34) (ma 6) (ma 9) (ma 3) (ma 13) (ma 12) (ma 16) (ma 11) (ma 14) (ma 17) (ma 15) = some (v', 0, t', -1, r2') := by
    rw [h1]
    exact m_surely hpo hpx hpm hfk 
  obtain ⟨v', t', k2', b2', r', r2', e1, hk2, e2⟩ := hE
  have h4 := zal_at (t4_surely _ _ _ _ _ _ _ _ _ _ _ _ _ _ _ _ _ _ _ _ _ _ _ _ _ _ _ _ _ _ _) e1
  exact ⟨_, _, e1, e2, rfl, h1, hg, t, nc, p, nl, r, A, I, hnc, zB0_q (t' := t') h0 h4 rfl rfl rfl rfl rfl rfl rfl rfl rfl, ⟨hpo, hpx, hk2, hl1, hl2, hpm⟩, hN, hi⟩
set_option maxHeartbeats 1000000 in
theorem r_ask {j e : Nat} {s : Nat → Int32} {a : Nat → Nat → Int32} {g : Nat → Option Nat} {ms : Nat → Int32} {ma : Nat → Nat → Int32} {rs : Nat → Nat → Nat} {ss : Nat → Nat → Int32} {ca : Nat → Nat → Nat → Int32} (H : zGC j e s a g ms ma rs ss ca) : ∃ (x : Int32 × Int32 × Int32 × Int32 × Int32 × Int32 × Int32 × Int32 × Int32 × Int32 × Int32 × Int32 × (Nat → Int32) × (Nat → Int32) × (Nat → Int32) × (Nat → Int32) × (Nat → Int32) × (Nat → Int32)) (y : Int32 × Int32 × Int32 × Int32 × Int32 × Int32 × Int32 × Int32 × Int32 × Int32 × Int32 × Int32 × Int32 × Int32 × (Nat → Int32) × (Nat → Int32) × (Nat → Int32)), fX5_ask (s 1) (s 3) (s 4) (s 5) (s 6) (s 8) (s 9) (s 10) (s 11) (s 12) (s 37) (s 38) (s 39) (s 40) (s 41) (s 42) (s 43) (s 44) (a 4) (a 10) (a 9) (a 5) (a 6) (a 7) (a 8) (a 34) (a 32) (a 29) (a 33) (a 31) (a 30) = some x ∧ fX7_ask (ms 0) (ms 1) (ms 2) (ms 13) (ms 14) (ms 15) (ms 16) (ms 17) (ms 18) (ms 21) (ms 22) (ms 23) (ms 24) (ms 26) (ms 27) (ms 30) (ms 31) (ms 32) (ms 33) (ms 34) (ma 6) (ma 9) (ma 3) (ma 13) (ma 12) (ma 16) (ma 11) (ma 14) (ma 17) (ma 15) = some y ∧ x.1 = y.1 ∧ zGC j e (zu (zu (zu (zu (zu (zu (zu (zu (zu (zu (zu s 3 x.2.1) 11 x.2.2.1) 12 x.2.2.2.1) 37 x.2.2.2.2.1) 38 x.2.2.2.2.2.1) 39 x.2.2.2.2.2.2.1) 40 x.2.2.2.2.2.2.2.1) 41 x.2.2.2.2.2.2.2.2.1) 42 x.2.2.2.2.2.2.2.2.2.1) 43 x.2.2.2.2.2.2.2.2.2.2.1) 44 x.2.2.2.2.2.2.2.2.2.2.2.1) (zu (zu (zu (zu (zu (zu a 34 x.2.2.2.2.2.2.2.2.2.2.2.2.1) 32 x.2.2.2.2.2.2.2.2.2.2.2.2.2.1) 29 x.2.2.2.2.2.2.2.2.2.2.2.2.2.2.1) 33 x.2.2.2.2.2.2.2.2.2.2.2.2.2.2.2.1) 31 x.2.2.2.2.2.2.2.2.2.2.2.2.2.2.2.2.1) 30 x.2.2.2.2.2.2.2.2.2.2.2.2.2.2.2.2.2) g (zu (zu (zu (zu (zu (zu (zu (zu (zu (zu (zu (zu (zu ms 0 y.2.1) 1 y.2.2.1) 2 y.2.2.2.1) 13 y.2.2.2.2.1) 14 y.2.2.2.2.2.1) 15 y.2.2.2.2.2.2.1) 16 y.2.2.2.2.2.2.2.1) 17 y.2.2.2.2.2.2.2.2.1) 18 y.2.2.2.2.2.2.2.2.2.1) 21 y.2.2.2.2.2.2.2.2.2.2.1) 22 y.2.2.2.2.2.2.2.2.2.2.2.1) 23 y.2.2.2.2.2.2.2.2.2.2.2.2.1) 24 y.2.2.2.2.2.2.2.2.2.2.2.2.2.1) (zu (zu (zu ma 6 y.2.2.2.2.2.2.2.2.2.2.2.2.2.2.1) 9 y.2.2.2.2.2.2.2.2.2.2.2.2.2.2.2.1) 3 y.2.2.2.2.2.2.2.2.2.2.2.2.2.2.2.2) rs ss ca := by
  obtain ⟨h1, hg, t, nc, p, nl, r, A, I, hnc, h0, hP, hN, hi⟩ := H
  obtain ⟨hpo, hpx, hfk, hl1, hl2, hpm⟩ := id hP
  obtain ⟨hb, hcl, hmo⟩ := id hN
  have hE : ∃ v' t' k2' b2' r' r2', fX5_ask (s 1) (s 3) (s 4) (s 5) (s 6) (s 8) (s 9) (s 10) (s 11) (s 12) (s 37) (s 38) (s 39) (s 40) (s 41) (s 42) (s 43) (s 44) (a 4) (a 10) (a 9) (a 5) (a 6) (a 7) (a 8) (a 34) (a 32) (a 29) (a 33) (a 31) (a 30) = some (v', t', k2', b2', r') ∧ zFK p k2' b2' ∧ fX7_ask (ms 0) (ms 1) (ms 2) (ms 13) (ms 14) (ms 15) (ms 16) (ms 17) (ms 18) (ms 21) (ms 22) (ms 23) (ms 24) (ms 26) (ms 27) (ms 30) (ms 31) (ms 32) (ms 33) (ms 34) (ma 6) (ma 9) (ma 3) (ma 13) (ma 12) (ma 16) (ma 11) (ma 14) (ma 17) (ma 15) = some (v', 0, t', -1, r2') := by
    rw [h1]
    exact m_ask hpo hpx hpm hfk 
  obtain ⟨v', t', k2', b2', r', r2', e1, hk2, e2⟩ := hE
  have h4 := zal_at (t4_ask _ _ _ _ _ _ _ _ _ _ _ _ _ _ _ _ _ _ _ _ _ _ _ _ _ _ _ _ _ _ _) e1
  exact ⟨_, _, e1, e2, rfl, h1, hg, t, nc, p, nl, r, A, I, hnc, zB0_q (t' := t') h0 h4 rfl rfl rfl rfl rfl rfl rfl rfl rfl, ⟨hpo, hpx, hk2, hl1, hl2, hpm⟩, hN, hi⟩
set_option maxHeartbeats 1000000 in
theorem r_askLeaves {j e : Nat} {s : Nat → Int32} {a : Nat → Nat → Int32} {g : Nat → Option Nat} {ms : Nat → Int32} {ma : Nat → Nat → Int32} {rs : Nat → Nat → Nat} {ss : Nat → Nat → Int32} {ca : Nat → Nat → Nat → Int32} (H : zGC j e s a g ms ma rs ss ca) : ∃ (x : Int32 × Int32 × Int32 × Int32 × Int32 × Int32 × Int32 × Int32 × Int32 × Int32 × Int32 × Int32 × (Nat → Int32) × (Nat → Int32) × (Nat → Int32) × (Nat → Int32) × (Nat → Int32) × (Nat → Int32)) (y : Int32 × Int32 × Int32 × Int32 × Int32 × Int32 × Int32 × Int32 × Int32 × Int32 × Int32 × Int32 × Int32 × Int32 × (Nat → Int32) × (Nat → Int32) × (Nat → Int32)), fX5_askLeaves (s 1) (s 3) (s 4) (s 5) (s 6) (s 8) (s 9) (s 10) (s 11) (s 12) (s 37) (s 38) (s 39) (s 40) (s 41) (s 42) (s 43) (s 44) (a 4) (a 10) (a 9) (a 5) (a 6) (a 7) (a 8) (a 34) (a 32) (a 29) (a 33) (a 31) (a 30) = some x ∧ fX7_askLeaves (ms 0) (ms 1) (ms 2) (ms 13) (ms 14) (ms 15) (ms 16) (ms 17) (ms 18) (ms 21) (ms 22) (ms 23) (ms 24) (ms 26) (ms 27) (ms 30) (ms 31) (ms 32) (ms 33) (ms 34) (ma 6) (ma 9) (ma 3) (ma 13) (ma 12) (ma 16) (ma 11) (ma 14) (ma 17) (ma 15) = some y ∧ x.1 = y.1 ∧ zGC j e (zu (zu (zu (zu (zu (zu (zu (zu (zu (zu (zu s 3 x.2.1) 11 x.2.2.1) 12 x.2.2.2.1) 37 x.2.2.2.2.1) 38 x.2.2.2.2.2.1) 39 x.2.2.2.2.2.2.1) 40 x.2.2.2.2.2.2.2.1) 41 x.2.2.2.2.2.2.2.2.1) 42 x.2.2.2.2.2.2.2.2.2.1) 43 x.2.2.2.2.2.2.2.2.2.2.1) 44 x.2.2.2.2.2.2.2.2.2.2.2.1) (zu (zu (zu (zu (zu (zu a 34 x.2.2.2.2.2.2.2.2.2.2.2.2.1) 32 x.2.2.2.2.2.2.2.2.2.2.2.2.2.1) 29 x.2.2.2.2.2.2.2.2.2.2.2.2.2.2.1) 33 x.2.2.2.2.2.2.2.2.2.2.2.2.2.2.2.1) 31 x.2.2.2.2.2.2.2.2.2.2.2.2.2.2.2.2.1) 30 x.2.2.2.2.2.2.2.2.2.2.2.2.2.2.2.2.2) g (zu (zu (zu (zu (zu (zu (zu (zu (zu (zu (zu (zu (zu ms 0 y.2.1) 1 y.2.2.1) 2 y.2.2.2.1) 13 y.2.2.2.2.1) 14 y.2.2.2.2.2.1) 15 y.2.2.2.2.2.2.1) 16 y.2.2.2.2.2.2.2.1) 17 y.2.2.2.2.2.2.2.2.1) 18 y.2.2.2.2.2.2.2.2.2.1) 21 y.2.2.2.2.2.2.2.2.2.2.1) 22 y.2.2.2.2.2.2.2.2.2.2.2.1) 23 y.2.2.2.2.2.2.2.2.2.2.2.2.1) 24 y.2.2.2.2.2.2.2.2.2.2.2.2.2.1) (zu (zu (zu ma 6 y.2.2.2.2.2.2.2.2.2.2.2.2.2.2.1) 9 y.2.2.2.2.2.2.2.2.2.2.2.2.2.2.2.1) 3 y.2.2.2.2.2.2.2.2.2.2.2.2.2.2.2.2) rs ss ca := by
  obtain ⟨h1, hg, t, nc, p, nl, r, A, I, hnc, h0, hP, hN, hi⟩ := H
  obtain ⟨hpo, hpx, hfk, hl1, hl2, hpm⟩ := id hP
  obtain ⟨hb, hcl, hmo⟩ := id hN
  have hE : ∃ v' t' k2' b2' r' r2', fX5_askLeaves (s 1) (s 3) (s 4) (s 5) (s 6) (s 8) (s 9) (s 10) (s 11) (s 12) (s 37) (s 38) (s 39) (s 40) (s 41) (s 42) (s 43) (s 44) (a 4) (a 10) (a 9) (a 5) (a 6) (a 7) (a 8) (a 34) (a 32) (a 29) (a 33) (a 31) (a 30) = some (v', t', k2', b2', r') ∧ zFK p k2' b2' ∧ fX7_askLeaves (ms 0) (ms 1) (ms 2) (ms 13) (ms 14) (ms 15) (ms 16) (ms 17) (ms 18) (ms 21) (ms 22) (ms 23) (ms 24) (ms 26) (ms 27) (ms 30) (ms 31) (ms 32) (ms 33) (ms 34) (ma 6) (ma 9) (ma 3) (ma 13) (ma 12) (ma 16) (ma 11) (ma 14) (ma 17) (ma 15) = some (v', 0, t', -1, r2') := by
    rw [h1]
    exact m_askLeaves hpo hpx hpm hfk 
  obtain ⟨v', t', k2', b2', r', r2', e1, hk2, e2⟩ := hE
  have h4 := zal_at (t4_askLeaves _ _ _ _ _ _ _ _ _ _ _ _ _ _ _ _ _ _ _ _ _ _ _ _ _ _ _ _ _ _ _) e1
  exact ⟨_, _, e1, e2, rfl, h1, hg, t, nc, p, nl, r, A, I, hnc, zB0_q (t' := t') h0 h4 rfl rfl rfl rfl rfl rfl rfl rfl rfl, ⟨hpo, hpx, hk2, hl1, hl2, hpm⟩, hN, hi⟩
set_option maxHeartbeats 1000000 in
theorem r_judge {j e : Nat} {s : Nat → Int32} {a : Nat → Nat → Int32} {g : Nat → Option Nat} {ms : Nat → Int32} {ma : Nat → Nat → Int32} {rs : Nat → Nat → Nat} {ss : Nat → Nat → Int32} {ca : Nat → Nat → Nat → Int32} (H : zGC j e s a g ms ma rs ss ca) : ∃ (x : Int32 × Int32 × Int32 × Int32 × Int32 × Int32 × Int32 × Int32 × Int32 × Int32 × (Nat → Int32) × (Nat → Int32) × (Nat → Int32) × (Nat → Int32) × (Nat → Int32) × (Nat → Int32)) (y : Int32 × Int32 × Int32 × Int32 × Int32 × Int32 × Int32 × Int32 × Int32 × Int32 × (Nat → Int32) × (Nat → Int32)), fX5_judge (s 1) (s 3) (s 4) (s 5) (s 6) (s 8) (s 9) (s 10) (s 37) (s 38) (s 39) (s 40) (s 41) (s 42) (s 43) (s 44) (a 4) (a 10) (a 9) (a 5) (a 6) (a 7) (a 8) (a 34) (a 32) (a 29) (a 33) (a 31) (a 30) = some x ∧ fX7_judge (ms 0) (ms 1) (ms 2) (ms 13) (ms 14) (ms 15) (ms 16) (ms 17) (ms 18) (ms 26) (ms 27) (ms 30) (ms 31) (ms 32) (ms 33) (ms 34) (ma 6) (ma 3) (ma 13) (ma 12) (ma 16) (ma 11) (ma 14) (ma 17) (ma 15) = some y ∧ x.1 = y.1 ∧ zGC j e (zu (zu (zu (zu (zu (zu (zu (zu (zu s 3 x.2.1) 37 x.2.2.1) 38 x.2.2.2.1) 39 x.2.2.2.2.1) 40 x.2.2.2.2.2.1) 41 x.2.2.2.2.2.2.1) 42 x.2.2.2.2.2.2.2.1) 43 x.2.2.2.2.2.2.2.2.1) 44 x.2.2.2.2.2.2.2.2.2.1) (zu (zu (zu (zu (zu (zu a 34 x.2.2.2.2.2.2.2.2.2.2.1) 32 x.2.2.2.2.2.2.2.2.2.2.2.1) 29 x.2.2.2.2.2.2.2.2.2.2.2.2.1) 33 x.2.2.2.2.2.2.2.2.2.2.2.2.2.1) 31 x.2.2.2.2.2.2.2.2.2.2.2.2.2.2.1) 30 x.2.2.2.2.2.2.2.2.2.2.2.2.2.2.2) g (zu (zu (zu (zu (zu (zu (zu (zu (zu ms 0 y.2.1) 1 y.2.2.1) 2 y.2.2.2.1) 13 y.2.2.2.2.1) 14 y.2.2.2.2.2.1) 15 y.2.2.2.2.2.2.1) 16 y.2.2.2.2.2.2.2.1) 17 y.2.2.2.2.2.2.2.2.1) 18 y.2.2.2.2.2.2.2.2.2.1) (zu (zu ma 6 y.2.2.2.2.2.2.2.2.2.2.1) 3 y.2.2.2.2.2.2.2.2.2.2.2) rs ss ca := by
  obtain ⟨h1, hg, t, nc, p, nl, r, A, I, hnc, h0, hP, hN, hi⟩ := H
  obtain ⟨hpo, hpx, hfk, hl1, hl2, hpm⟩ := id hP
  obtain ⟨hb, hcl, hmo⟩ := id hN
  have hE : ∃ v' t' r' r2', fX5_judge (s 1) (s 3) (s 4) (s 5) (s 6) (s 8) (s 9) (s 10) (s 37) (s 38) (s 39) (s 40) (s 41) (s 42) (s 43) (s 44) (a 4) (a 10) (a 9) (a 5) (a 6) (a 7) (a 8) (a 34) (a 32) (a 29) (a 33) (a 31) (a 30) = some (v', t', r') ∧ fX7_judge (ms 0) (ms 1) (ms 2) (ms 13) (ms 14) (ms 15) (ms 16) (ms 17) (ms 18) (ms 26) (ms 27) (ms 30) (ms 31) (ms 32) (ms 33) (ms 34) (ma 6) (ma 3) (ma 13) (ma 12) (ma 16) (ma 11) (ma 14) (ma 17) (ma 15) = some (v', 0, t', -1, r2') := by
    rw [h1]
    exact m_judge hpo hpx hpm 
  obtain ⟨v', t', r', r2', e1, e2⟩ := hE
  have h4 := zal_at (t4_judge _ _ _ _ _ _ _ _ _ _ _ _ _ _ _ _ _ _ _ _ _ _ _ _ _ _ _ _ _) e1
  exact ⟨_, _, e1, e2, rfl, h1, hg, t, nc, p, nl, r, A, I, hnc, zB0_q (t' := t') h0 h4 rfl rfl rfl rfl rfl rfl rfl rfl rfl, hP, hN, hi⟩
set_option maxHeartbeats 1000000 in
theorem r_drawnHits {j e : Nat} {s : Nat → Int32} {a : Nat → Nat → Int32} {g : Nat → Option Nat} {ms : Nat → Int32} {ma : Nat → Nat → Int32} {rs : Nat → Nat → Nat} {ss : Nat → Nat → Int32} {ca : Nat → Nat → Nat → Int32} (H : zGC j e s a g ms ma rs ss ca) (a1 : Int32) (a2 : Int32) : ∃ (x : Int32 × Int32 × Int32 × Int32 × Int32 × Int32 × Int32 × Int32 × Int32 × Int32 × (Nat → Int32) × (Nat → Int32) × (Nat → Int32) × (Nat → Int32) × (Nat → Int32) × (Nat → Int32)) (y : Int32 × Int32 × Int32 × Int32 × Int32 × Int32 × Int32 × Int32 × Int32 × Int32 × (Nat → Int32) × (Nat → Int32)), fX5_drawnHits (s 1) (s 3) (s 29) (s 30) (s 31) (s 32) (s 33) (s 37) (s 38) (s 39) (s 40) (s 41) (s 42) (s 43) (s 44) (a 27) (a 25) (a 22) (a 26) (a 24) (a 23) (a 34) (a 32) (a 29) (a 33) (a 31) (a 30) a1 a2 = some x ∧ fX7_drawnHits (ms 0) (ms 1) (ms 2) (ms 13) (ms 14) (ms 15) (ms 16) (ms 18) (ms 25) (ms 26) (ms 27) (ms 34) (ma 6) (ma 2) (ma 3) a1 a2 = some y ∧ x.1 = y.1 ∧ zGC j e (zu (zu (zu (zu (zu (zu (zu (zu (zu s 3 x.2.1) 37 x.2.2.1) 38 x.2.2.2.1) 39 x.2.2.2.2.1) 40 x.2.2.2.2.2.1) 41 x.2.2.2.2.2.2.1) 42 x.2.2.2.2.2.2.2.1) 43 x.2.2.2.2.2.2.2.2.1) 44 x.2.2.2.2.2.2.2.2.2.1) (zu (zu (zu (zu (zu (zu a 34 x.2.2.2.2.2.2.2.2.2.2.1) 32 x.2.2.2.2.2.2.2.2.2.2.2.1) 29 x.2.2.2.2.2.2.2.2.2.2.2.2.1) 33 x.2.2.2.2.2.2.2.2.2.2.2.2.2.1) 31 x.2.2.2.2.2.2.2.2.2.2.2.2.2.2.1) 30 x.2.2.2.2.2.2.2.2.2.2.2.2.2.2.2) g (zu (zu (zu (zu (zu (zu (zu (zu (zu ms 0 y.2.1) 1 y.2.2.1) 2 y.2.2.2.1) 13 y.2.2.2.2.1) 14 y.2.2.2.2.2.1) 15 y.2.2.2.2.2.2.1) 16 y.2.2.2.2.2.2.2.1) 18 y.2.2.2.2.2.2.2.2.1) 25 y.2.2.2.2.2.2.2.2.2.1) (zu (zu ma 6 y.2.2.2.2.2.2.2.2.2.2.1) 3 y.2.2.2.2.2.2.2.2.2.2.2) rs ss ca := by
  obtain ⟨h1, hg, t, nc, p, nl, r, A, I, hnc, h0, hP, hN, hi⟩ := H
  obtain ⟨hpo, hpx, hfk, hl1, hl2, hpm⟩ := id hP
  obtain ⟨hb, hcl, hmo⟩ := id hN
  have hE : ∃ v' t' r' r2', fX5_drawnHits (s 1) (s 3) (s 29) (s 30) (s 31) (s 32) (s 33) (s 37) (s 38) (s 39) (s 40) (s 41) (s 42) (s 43) (s 44) (a 27) (a 25) (a 22) (a 26) (a 24) (a 23) (a 34) (a 32) (a 29) (a 33) (a 31) (a 30) a1 a2 = some (v', t', r') ∧ fX7_drawnHits (ms 0) (ms 1) (ms 2) (ms 13) (ms 14) (ms 15) (ms 16) (ms 18) (ms 25) (ms 26) (ms 27) (ms 34) (ma 6) (ma 2) (ma 3) a1 a2 = some (v', 0, t', -1, r2') := by
    rw [h1, hcl.1.1, hcl.1.2.1, hcl.1.2.2.1, hcl.1.2.2.2.1, hcl.1.2.2.2.2.1, hpm.1, hpm.2.1, hpm.2.2.1]
    exact m_drawnHits hb.1 (zAb_now hb).1 (by have h5 := (zAb_now hb).2.2; have h6 := hb.2.2.2.2.2.2; omega) (zAb_now hb).2.1 hcl.1.2.2.2.2.2 hmo.2 a1 a2
  obtain ⟨v', t', r', r2', e1, e2⟩ := hE
  have h4 := zal_at (t4_drawnHits _ _ _ _ _ _ _ _ _ _ _ _ _ _ _ _ _ _ _ _ _ _ _ _ _ _ _ _ _) e1
  exact ⟨_, _, e1, e2, rfl, h1, hg, t, nc, p, nl, r, A, I, hnc, zB0_q (t' := t') h0 h4 rfl rfl rfl rfl rfl rfl rfl rfl rfl, hP, hN, hi⟩
set_option maxHeartbeats 1000000 in
theorem r_drawnBacks {j e : Nat} {s : Nat → Int32} {a : Nat → Nat → Int32} {g : Nat → Option Nat} {ms : Nat → Int32} {ma : Nat → Nat → Int32} {rs : Nat → Nat → Nat} {ss : Nat → Nat → Int32} {ca : Nat → Nat → Nat → Int32} (H : zGC j e s a g ms ma rs ss ca) (a1 : Int32) (a2 : Int32) : ∃ (x : Int32 × Int32 × Int32 × Int32 × Int32 × Int32 × Int32 × Int32 × Int32 × Int32 × (Nat → Int32) × (Nat → Int32) × (Nat → Int32) × (Nat → Int32) × (Nat → Int32) × (Nat → Int32)) (y : Int32 × Int32 × Int32 × Int32 × Int32 × Int32 × Int32 × Int32 × Int32 × Int32 × (Nat → Int32) × (Nat → Int32)), fX5_drawnBacks (s 1) (s 3) (s 29) (s 30) (s 31) (s 32) (s 33) (s 37) (s 38) (s 39) (s 40) (s 41) (s 42) (s 43) (s 44) (a 27) (a 25) (a 22) (a 26) (a 24) (a 23) (a 34) (a 32) (a 29) (a 33) (a 31) (a 30) a1 a2 = some x ∧ fX7_drawnBacks (ms 0) (ms 1) (ms 2) (ms 13) (ms 14) (ms 15) (ms 16) (ms 18) (ms 25) (ms 26) (ms 27) (ms 34) (ma 6) (ma 2) (ma 3) a1 a2 = some y ∧ x.1 = y.1 ∧ zGC j e (zu (zu (zu (zu (zu (zu (zu (zu (zu s 3 x.2.1) 37 x.2.2.1) 38 x.2.2.2.1) 39 x.2.2.2.2.1) 40 x.2.2.2.2.2.1) 41 x.2.2.2.2.2.2.1) 42 x.2.2.2.2.2.2.2.1) 43 x.2.2.2.2.2.2.2.2.1) 44 x.2.2.2.2.2.2.2.2.2.1) (zu (zu (zu (zu (zu (zu a 34 x.2.2.2.2.2.2.2.2.2.2.1) 32 x.2.2.2.2.2.2.2.2.2.2.2.1) 29 x.2.2.2.2.2.2.2.2.2.2.2.2.1) 33 x.2.2.2.2.2.2.2.2.2.2.2.2.2.1) 31 x.2.2.2.2.2.2.2.2.2.2.2.2.2.2.1) 30 x.2.2.2.2.2.2.2.2.2.2.2.2.2.2.2) g (zu (zu (zu (zu (zu (zu (zu (zu (zu ms 0 y.2.1) 1 y.2.2.1) 2 y.2.2.2.1) 13 y.2.2.2.2.1) 14 y.2.2.2.2.2.1) 15 y.2.2.2.2.2.2.1) 16 y.2.2.2.2.2.2.2.1) 18 y.2.2.2.2.2.2.2.2.1) 25 y.2.2.2.2.2.2.2.2.2.1) (zu (zu ma 6 y.2.2.2.2.2.2.2.2.2.2.1) 3 y.2.2.2.2.2.2.2.2.2.2.2) rs ss ca := by
  obtain ⟨h1, hg, t, nc, p, nl, r, A, I, hnc, h0, hP, hN, hi⟩ := H
  obtain ⟨hpo, hpx, hfk, hl1, hl2, hpm⟩ := id hP
  obtain ⟨hb, hcl, hmo⟩ := id hN
  have hE : ∃ v' t' r' r2', fX5_drawnBacks (s 1) (s 3) (s 29) (s 30) (s 31) (s 32) (s 33) (s 37) (s 38) (s 39) (s 40) (s 41) (s 42) (s 43) (s 44) (a 27) (a 25) (a 22) (a 26) (a 24) (a 23) (a 34) (a 32) (a 29) (a 33) (a 31) (a 30) a1 a2 = some (v', t', r') ∧ fX7_drawnBacks (ms 0) (ms 1) (ms 2) (ms 13) (ms 14) (ms 15) (ms 16) (ms 18) (ms 25) (ms 26) (ms 27) (ms 34) (ma 6) (ma 2) (ma 3) a1 a2 = some (v', 0, t', -1, r2') := by
    rw [h1, hcl.1.1, hcl.1.2.1, hcl.1.2.2.1, hcl.1.2.2.2.1, hcl.1.2.2.2.2.1, hpm.1, hpm.2.1, hpm.2.2.1]
    exact m_drawnBacks hb.1 (zAb_now hb).1 (by have h5 := (zAb_now hb).2.2; have h6 := hb.2.2.2.2.2.2; omega) (zAb_now hb).2.1 hcl.1.2.2.2.2.2 hmo.2 a1 a2
  obtain ⟨v', t', r', r2', e1, e2⟩ := hE
  have h4 := zal_at (t4_drawnBacks _ _ _ _ _ _ _ _ _ _ _ _ _ _ _ _ _ _ _ _ _ _ _ _ _ _ _ _ _) e1
  exact ⟨_, _, e1, e2, rfl, h1, hg, t, nc, p, nl, r, A, I, hnc, zB0_q (t' := t') h0 h4 rfl rfl rfl rfl rfl rfl rfl rfl rfl, hP, hN, hi⟩
