/-! ===== questions and acts, no cache ===== -/
set_option maxHeartbeats 1000000 in
theorem rn_word {s : Nat → Int32} {a : Nat → Nat → Int32} {g : Nat → Option Nat} {ms : Nat → Int32} {ma : Nat → Nat → Int32} {rs : Nat → Nat → Nat} (H : zGN s a g ms ma rs) (a1 : Int32) (a2 : Int32) : ∃ (x : Int32 × Int32) (y : Int32 × Int32 × Int32 × Int32), fX5_word (s 1) (s 3) (a 23) a1 a2 = some x ∧ fX7_word_n (ms 0) (ms 1) (ms 2) a1 a2 = some y ∧ x.1 = y.1 ∧ zGN (zu s 3 x.2) a g (zu (zu (zu ms 0 y.2.1) 1 y.2.2.1) 2 y.2.2.2) ma rs := by
  obtain ⟨h1, hg, ⟨t, h0⟩, h2⟩ := H
  have e1 := nX_word s a a1 a2
  rw [← h1] at e1
  exact ⟨_, _, e1, nM_word ms ma a1 a2, rfl, h1, hg, ⟨t, zB0_q (t' := 1) h0 (by decide) rfl rfl rfl rfl rfl rfl rfl rfl rfl⟩, h2⟩
set_option maxHeartbeats 1000000 in
theorem rn_memory {s : Nat → Int32} {a : Nat → Nat → Int32} {g : Nat → Option Nat} {ms : Nat → Int32} {ma : Nat → Nat → Int32} {rs : Nat → Nat → Nat} (H : zGN s a g ms ma rs) (a1 : Int32) (a2 : Int32) : ∃ (x : Int32 × Int32) (y : Int32 × Int32 × Int32 × Int32), fX5_memory (s 1) (s 3) (a 22) a1 a2 = some x ∧ fX7_memory_n (ms 0) (ms 1) (ms 2) (ma 2) a1 a2 = some y ∧ x.1 = y.1 ∧ zGN (zu s 3 x.2) a g (zu (zu (zu ms 0 y.2.1) 1 y.2.2.1) 2 y.2.2.2) ma rs := by
  obtain ⟨h1, hg, ⟨t, h0⟩, h2⟩ := H
  have e1 := nX_memory s a a1 a2
  rw [← h1] at e1
  exact ⟨_, _, e1, nM_memory ms ma a1 a2, rfl, h1, hg, ⟨t, zB0_q (t' := 1) h0 (by decide) rfl rfl rfl rfl rfl rfl rfl rfl rfl⟩, h2⟩
set_option maxHeartbeats 1000000 in
theorem rn_form {s : Nat → Int32} {a : Nat → Nat → Int32} {g : Nat → Option Nat} {ms : Nat → Int32} {ma : Nat → Nat → Int32} {rs : Nat → Nat → Nat} (H : zGN s a g ms ma rs) (a1 : Int32) : ∃ (x : Int32 × Int32) (y : Int32 × Int32 × Int32 × Int32), fX5_form (s 1) (s 3) (a 23) a1 = some x ∧ fX7_form_n (ms 0) (ms 1) (ms 2) a1 = some y ∧ x.1 = y.1 ∧ zGN (zu s 3 x.2) a g (zu (zu (zu ms 0 y.2.1) 1 y.2.2.1) 2 y.2.2.2) ma rs := by
  obtain ⟨h1, hg, ⟨t, h0⟩, h2⟩ := H
  have e1 := nX_form s a a1
  rw [← h1] at e1
  exact ⟨_, _, e1, nM_form ms ma a1, rfl, h1, hg, ⟨t, zB0_q (t' := 1) h0 (by decide) rfl rfl rfl rfl rfl rfl rfl rfl rfl⟩, h2⟩
set_option maxHeartbeats 1000000 in
theorem rn_bytes {s : Nat → Int32} {a : Nat → Nat → Int32} {g : Nat → Option Nat} {ms : Nat → Int32} {ma : Nat → Nat → Int32} {rs : Nat → Nat → Nat} (H : zGN s a g ms ma rs) (a1 : Int32) (a2 : Int32) : ∃ (x : Int32 × Int32) (y : Int32 × Int32 × Int32 × Int32), fX5_bytes (s 1) (s 3) (a 23) a1 a2 = some x ∧ fX7_bytes_n (ms 0) (ms 1) (ms 2) a1 a2 = some y ∧ x.1 = y.1 ∧ zGN (zu s 3 x.2) a g (zu (zu (zu ms 0 y.2.1) 1 y.2.2.1) 2 y.2.2.2) ma rs := by
  obtain ⟨h1, hg, ⟨t, h0⟩, h2⟩ := H
  have e1 := nX_bytes s a a1 a2
  rw [← h1] at e1
  exact ⟨_, _, e1, nM_bytes ms ma a1 a2, rfl, h1, hg, ⟨t, zB0_q (t' := 1) h0 (by decide) rfl rfl rfl rfl rfl rfl rfl rfl rfl⟩, h2⟩
set_option maxHeartbeats 1000000 in
theorem rn_forms {s : Nat → Int32} {a : Nat → Nat → Int32} {g : Nat → Option Nat} {ms : Nat → Int32} {ma : Nat → Nat → Int32} {rs : Nat → Nat → Nat} (H : zGN s a g ms ma rs) (a1 : Int32) : ∃ (x : Int32 × Int32) (y : Int32 × Int32 × Int32 × Int32), fX5_forms (s 1) (s 3) (a 23) a1 = some x ∧ fX7_forms_n (ms 0) (ms 1) (ms 2) a1 = some y ∧ x.1 = y.1 ∧ zGN (zu s 3 x.2) a g (zu (zu (zu ms 0 y.2.1) 1 y.2.2.1) 2 y.2.2.2) ma rs := by
  obtain ⟨h1, hg, ⟨t, h0⟩, h2⟩ := H
  have e1 := nX_forms s a a1
  rw [← h1] at e1
  exact ⟨_, _, e1, nM_forms ms ma a1, rfl, h1, hg, ⟨t, zB0_q (t' := 1) h0 (by decide) rfl rfl rfl rfl rfl rfl rfl rfl rfl⟩, h2⟩
set_option maxHeartbeats 1000000 in
theorem rn_segments {s : Nat → Int32} {a : Nat → Nat → Int32} {g : Nat → Option Nat} {ms : Nat → Int32} {ma : Nat → Nat → Int32} {rs : Nat → Nat → Nat} (H : zGN s a g ms ma rs) (a1 : Int32) : ∃ (x : Int32 × Int32) (y : Int32 × Int32 × Int32 × Int32), fX5_segments (s 1) (s 3) (a 23) a1 = some x ∧ fX7_segments_n (ms 0) (ms 1) (ms 2) a1 = some y ∧ x.1 = y.1 ∧ zGN (zu s 3 x.2) a g (zu (zu (zu ms 0 y.2.1) 1 y.2.2.1) 2 y.2.2.2) ma rs := by
  obtain ⟨h1, hg, ⟨t, h0⟩, h2⟩ := H
  have e1 := nX_segments s a a1
  rw [← h1] at e1
  exact ⟨_, _, e1, nM_segments ms ma a1, rfl, h1, hg, ⟨t, zB0_q (t' := 1) h0 (by decide) rfl rfl rfl rfl rfl rfl rfl rfl rfl⟩, h2⟩
set_option maxHeartbeats 1000000 in
theorem rn_base {s : Nat → Int32} {a : Nat → Nat → Int32} {g : Nat → Option Nat} {ms : Nat → Int32} {ma : Nat → Nat → Int32} {rs : Nat → Nat → Nat} (H : zGN s a g ms ma rs) (a1 : Int32) (a2 : Int32) : ∃ (x : Int64 × Int32) (y : Int64 × Int32 × Int32 × Int32), fX5_base (s 1) (s 3) (a 23) a1 a2 = some x ∧ fX7_base_n (ms 0) (ms 1) (ms 2) a1 a2 = some y ∧ x.1 = y.1 ∧ zGN (zu s 3 x.2) a g (zu (zu (zu ms 0 y.2.1) 1 y.2.2.1) 2 y.2.2.2) ma rs := by
  obtain ⟨h1, hg, ⟨t, h0⟩, h2⟩ := H
  have e1 := nX_base s a a1 a2
  rw [← h1] at e1
  exact ⟨_, _, e1, nM_base ms ma a1 a2, rfl, h1, hg, ⟨t, zB0_q (t' := 1) h0 (by decide) rfl rfl rfl rfl rfl rfl rfl rfl rfl⟩, h2⟩
set_option maxHeartbeats 1000000 in
theorem rn_mask {s : Nat → Int32} {a : Nat → Nat → Int32} {g : Nat → Option Nat} {ms : Nat → Int32} {ma : Nat → Nat → Int32} {rs : Nat → Nat → Nat} (H : zGN s a g ms ma rs) (a1 : Int32) (a2 : Int32) : ∃ (x : Int32 × Int32) (y : Int32 × Int32 × Int32 × Int32), fX5_mask (s 1) (s 3) (a 23) a1 a2 = some x ∧ fX7_mask_n (ms 0) (ms 1) (ms 2) a1 a2 = some y ∧ x.1 = y.1 ∧ zGN (zu s 3 x.2) a g (zu (zu (zu ms 0 y.2.1) 1 y.2.2.1) 2 y.2.2.2) ma rs := by
  obtain ⟨h1, hg, ⟨t, h0⟩, h2⟩ := H
  have e1 := nX_mask s a a1 a2
  rw [← h1] at e1
  exact ⟨_, _, e1, nM_mask ms ma a1 a2, rfl, h1, hg, ⟨t, zB0_q (t' := 1) h0 (by decide) rfl rfl rfl rfl rfl rfl rfl rfl rfl⟩, h2⟩
set_option maxHeartbeats 1000000 in
theorem rn_difference {s : Nat → Int32} {a : Nat → Nat → Int32} {g : Nat → Option Nat} {ms : Nat → Int32} {ma : Nat → Nat → Int32} {rs : Nat → Nat → Nat} (H : zGN s a g ms ma rs) (a1 : Int32) (a2 : Int32) (a3 : Int32) : ∃ (x : Int64 × Int32) (y : Int64 × Int32 × Int32 × Int32), fX5_difference (s 1) (s 3) (a 23) a1 a2 a3 = some x ∧ fX7_difference_n (ms 0) (ms 1) (ms 2) a1 a2 a3 = some y ∧ x.1 = y.1 ∧ zGN (zu s 3 x.2) a g (zu (zu (zu ms 0 y.2.1) 1 y.2.2.1) 2 y.2.2.2) ma rs := by
  obtain ⟨h1, hg, ⟨t, h0⟩, h2⟩ := H
  have e1 := nX_difference s a a1 a2 a3
  rw [← h1] at e1
  exact ⟨_, _, e1, nM_difference ms ma a1 a2 a3, rfl, h1, hg, ⟨t, zB0_q (t' := 1) h0 (by decide) rfl rfl rfl rfl rfl rfl rfl rfl rfl⟩, h2⟩
set_option maxHeartbeats 1000000 in
theorem rn_linesOf {s : Nat → Int32} {a : Nat → Nat → Int32} {g : Nat → Option Nat} {ms : Nat → Int32} {ma : Nat → Nat → Int32} {rs : Nat → Nat → Nat} (H : zGN s a g ms ma rs) (a1 : Int32) : ∃ (x : Int32 × Int32) (y : Int32 × Int32 × Int32 × Int32), fX5_linesOf (s 1) (s 3) (a 23) a1 = some x ∧ fX7_linesOf_n (ms 0) (ms 1) (ms 2) a1 = some y ∧ x.1 = y.1 ∧ zGN (zu s 3 x.2) a g (zu (zu (zu ms 0 y.2.1) 1 y.2.2.1) 2 y.2.2.2) ma rs := by
  obtain ⟨h1, hg, ⟨t, h0⟩, h2⟩ := H
  have e1 := nX_linesOf s a a1
  rw [← h1] at e1
  exact ⟨_, _, e1, nM_linesOf ms ma a1, rfl, h1, hg, ⟨t, zB0_q (t' := 1) h0 (by decide) rfl rfl rfl rfl rfl rfl rfl rfl rfl⟩, h2⟩
set_option maxHeartbeats 1000000 in
theorem rn_set {s : Nat → Int32} {a : Nat → Nat → Int32} {g : Nat → Option Nat} {ms : Nat → Int32} {ma : Nat → Nat → Int32} {rs : Nat → Nat → Nat} (H : zGN s a g ms ma rs) (a1 : Int32) (a2 : Int32) : ∃ (x : Int32 × Int32) (y : Int32 × Int32 × Int32 × Int32), fX5_set (s 1) (s 3) (s 29) (s 30) (s 4) (a 27) (a 26) (a 24) a1 a2 = some x ∧ fX7_set_n (ms 0) (ms 1) (ms 2) a1 a2 = some y ∧ x.1 = y.1 ∧ zGN (zu s 3 x.2) a g (zu (zu (zu ms 0 y.2.1) 1 y.2.2.1) 2 y.2.2.2) ma rs := by
  obtain ⟨h1, hg, ⟨t, h0⟩, h2⟩ := H
  have e1 := nX_set s a a1 a2
  rw [← h1] at e1
  exact ⟨_, _, e1, nM_set ms ma a1 a2, rfl, h1, hg, ⟨t, zB0_q (t' := 1) h0 (by decide) rfl rfl rfl rfl rfl rfl rfl rfl rfl⟩, h2⟩
set_option maxHeartbeats 1000000 in
theorem rn_tag {s : Nat → Int32} {a : Nat → Nat → Int32} {g : Nat → Option Nat} {ms : Nat → Int32} {ma : Nat → Nat → Int32} {rs : Nat → Nat → Nat} (H : zGN s a g ms ma rs) (a1 : Int32) (a2 : Int32) : ∃ (x : Int32 × Int32) (y : Int32 × Int32 × Int32 × Int32), fX5_tag (s 1) (s 3) (s 29) (s 4) (a 25) (a 24) a1 a2 = some x ∧ fX7_tag_n (ms 0) (ms 1) (ms 2) a1 a2 = some y ∧ x.1 = y.1 ∧ zGN (zu s 3 x.2) a g (zu (zu (zu ms 0 y.2.1) 1 y.2.2.1) 2 y.2.2.2) ma rs := by
  obtain ⟨h1, hg, ⟨t, h0⟩, h2⟩ := H
  have e1 := nX_tag s a a1 a2
  rw [← h1] at e1
  exact ⟨_, _, e1, nM_tag ms ma a1 a2, rfl, h1, hg, ⟨t, zB0_q (t' := 1) h0 (by decide) rfl rfl rfl rfl rfl rfl rfl rfl rfl⟩, h2⟩
set_option maxHeartbeats 1000000 in
theorem rn_cached {s : Nat → Int32} {a : Nat → Nat → Int32} {g : Nat → Option Nat} {ms : Nat → Int32} {ma : Nat → Nat → Int32} {rs : Nat → Nat → Nat} (H : zGN s a g ms ma rs) (a1 : Int32) (a2 : Int32) : ∃ (x : Int32 × Int32) (y : Int32 × Int32 × Int32 × Int32), fX5_cached (s 1) (s 3) (s 29) (a 27) (a 25) (a 24) a1 a2 = some x ∧ fX7_cached_n (ms 0) (ms 1) (ms 2) (ma 2) a1 a2 = some y ∧ x.1 = y.1 ∧ zGN (zu s 3 x.2) a g (zu (zu (zu ms 0 y.2.1) 1 y.2.2.1) 2 y.2.2.2) ma rs := by
  obtain ⟨h1, hg, ⟨t, h0⟩, h2⟩ := H
  have e1 := nX_cached s a a1 a2
  rw [← h1] at e1
  exact ⟨_, _, e1, nM_cached ms ma a1 a2, rfl, h1, hg, ⟨t, zB0_q (t' := 1) h0 (by decide) rfl rfl rfl rfl rfl rfl rfl rfl rfl⟩, h2⟩
set_option maxHeartbeats 1000000 in
theorem rn_isCached {s : Nat → Int32} {a : Nat → Nat → Int32} {g : Nat → Option Nat} {ms : Nat → Int32} {ma : Nat → Nat → Int32} {rs : Nat → Nat → Nat} (H : zGN s a g ms ma rs) (a1 : Int32) : ∃ (x : Int32 × Int32) (y : Int32 × Int32 × Int32 × Int32), fX5_isCached (s 1) (s 3) (a 24) a1 = some x ∧ fX7_isCached_n (ms 0) (ms 1) (ms 2) (ma 2) a1 = some y ∧ x.1 = y.1 ∧ zGN (zu s 3 x.2) a g (zu (zu (zu ms 0 y.2.1) 1 y.2.2.1) 2 y.2.2.2) ma rs := by
  obtain ⟨h1, hg, ⟨t, h0⟩, h2⟩ := H
  have e1 := nX_isCached s a a1
  rw [← h1] at e1
  exact ⟨_, _, e1, nM_isCached ms ma a1, rfl, h1, hg, ⟨t, zB0_q (t' := 1) h0 (by decide) rfl rfl rfl rfl rfl rfl rfl rfl rfl⟩, h2⟩
set_option maxHeartbeats 1000000 in
theorem rn_victim {s : Nat → Int32} {a : Nat → Nat → Int32} {g : Nat → Option Nat} {ms : Nat → Int32} {ma : Nat → Nat → Int32} {rs : Nat → Nat → Nat} (H : zGN s a g ms ma rs) (a1 : Int32) : ∃ (x : Int32 × Int32) (y : Int32 × Int32 × Int32 × Int32), fX5_victim (s 1) (s 3) (s 29) (s 31) (s 4) (a 25) (a 26) (a 24) a1 = some x ∧ fX7_victim_n (ms 0) (ms 1) (ms 2) a1 = some y ∧ x.1 = y.1 ∧ zGN (zu s 3 x.2) a g (zu (zu (zu ms 0 y.2.1) 1 y.2.2.1) 2 y.2.2.2) ma rs := by
  obtain ⟨h1, hg, ⟨t, h0⟩, h2⟩ := H
  have e1 := nX_victim s a a1
  rw [← h1] at e1
  exact ⟨_, _, e1, nM_victim ms ma a1, rfl, h1, hg, ⟨t, zB0_q (t' := 1) h0 (by decide) rfl rfl rfl rfl rfl rfl rfl rfl rfl⟩, h2⟩
set_option maxHeartbeats 1000000 in
theorem rn_makesRoom {s : Nat → Int32} {a : Nat → Nat → Int32} {g : Nat → Option Nat} {ms : Nat → Int32} {ma : Nat → Nat → Int32} {rs : Nat → Nat → Nat} (H : zGN s a g ms ma rs) (a1 : Int32) : ∃ (x : Int32 × Int32 × Int32 × Int32 × Int32 × Int32 × Int32 × Int32 × Int32 × Int32 × (Nat → Int32) × (Nat → Int32) × (Nat → Int32) × (Nat → Int32) × (Nat → Int32) × (Nat → Int32)) (y : Int32 × Int32 × Int32 × Int32), fX5_makesRoom (s 1) (s 3) (s 29) (s 30) (s 31) (s 32) (s 33) (s 37) (s 38) (s 39) (s 40) (s 41) (s 42) (s 43) (s 44) (a 27) (a 25) (a 22) (a 26) (a 24) (a 23) (a 34) (a 32) (a 29) (a 33) (a 31) (a 30) a1 = some x ∧ fX7_makesRoom_n (ms 0) (ms 1) (ms 2) a1 = some y ∧ x.1 = y.1 ∧ zGN (zu (zu (zu (zu (zu (zu (zu (zu (zu s 3 x.2.1) 37 x.2.2.1) 38 x.2.2.2.1) 39 x.2.2.2.2.1) 40 x.2.2.2.2.2.1) 41 x.2.2.2.2.2.2.1) 42 x.2.2.2.2.2.2.2.1) 43 x.2.2.2.2.2.2.2.2.1) 44 x.2.2.2.2.2.2.2.2.2.1) (zu (zu (zu (zu (zu (zu a 34 x.2.2.2.2.2.2.2.2.2.2.1) 32 x.2.2.2.2.2.2.2.2.2.2.2.1) 29 x.2.2.2.2.2.2.2.2.2.2.2.2.1) 33 x.2.2.2.2.2.2.2.2.2.2.2.2.2.1) 31 x.2.2.2.2.2.2.2.2.2.2.2.2.2.2.1) 30 x.2.2.2.2.2.2.2.2.2.2.2.2.2.2.2) g (zu (zu (zu ms 0 y.2.1) 1 y.2.2.1) 2 y.2.2.2) ma rs := by
  obtain ⟨h1, hg, ⟨t, h0⟩, h2⟩ := H
  have e1 := nX_makesRoom s a a1
  rw [← h1] at e1
  exact ⟨_, _, e1, nM_makesRoom ms ma a1, rfl, h1, hg, ⟨t, zB0_q (t' := 1) h0 (by decide) rfl rfl rfl rfl rfl rfl rfl rfl rfl⟩, h2⟩
set_option maxHeartbeats 1000000 in
theorem rn_growsOver {s : Nat → Int32} {a : Nat → Nat → Int32} {g : Nat → Option Nat} {ms : Nat → Int32} {ma : Nat → Nat → Int32} {rs : Nat → Nat → Nat} (H : zGN s a g ms ma rs) (a1 : Int32) (a2 : Int32) (a3 : Int32) : ∃ (x : Int32 × Int32 × Int32 × Int32 × Int32 × Int32 × Int32 × Int32 × Int32 × Int32 × (Nat → Int32) × (Nat → Int32) × (Nat → Int32) × (Nat → Int32) × (Nat → Int32) × (Nat → Int32)) (y : Int32 × Int32 × Int32 × Int32), fX5_growsOver (s 1) (s 3) (s 29) (s 30) (s 31) (s 32) (s 33) (s 37) (s 38) (s 39) (s 40) (s 41) (s 42) (s 43) (s 44) (a 27) (a 25) (a 22) (a 26) (a 24) (a 23) (a 34) (a 32) (a 29) (a 33) (a 31) (a 30) a1 a2 a3 = some x ∧ fX7_growsOver_n (ms 0) (ms 1) (ms 2) a1 a2 a3 = some y ∧ x.1 = y.1 ∧ zGN (zu (zu (zu (zu (zu (zu (zu (zu (zu s 3 x.2.1) 37 x.2.2.1) 38 x.2.2.2.1) 39 x.2.2.2.2.1) 40 x.2.2.2.2.2.1) 41 x.2.2.2.2.2.2.1) 42 x.2.2.2.2.2.2.2.1) 43 x.2.2.2.2.2.2.2.2.1) 44 x.2.2.2.2.2.2.2.2.2.1) (zu (zu (zu (zu (zu (zu a 34 x.2.2.2.2.2.2.2.2.2.2.1) 32 x.2.2.2.2.2.2.2.2.2.2.2.1) 29 x.2.2.2.2.2.2.2.2.2.2.2.2.1) 33 x.2.2.2.2.2.2.2.2.2.2.2.2.2.1) 31 x.2.2.2.2.2.2.2.2.2.2.2.2.2.2.1) 30 x.2.2.2.2.2.2.2.2.2.2.2.2.2.2.2) g (zu (zu (zu ms 0 y.2.1) 1 y.2.2.1) 2 y.2.2.2) ma rs := by
  obtain ⟨h1, hg, ⟨t, h0⟩, h2⟩ := H
  have e1 := nX_growsOver s a a1 a2 a3
  rw [← h1] at e1
  exact ⟨_, _, e1, nM_growsOver ms ma a1 a2 a3, rfl, h1, hg, ⟨t, zB0_q (t' := 1) h0 (by decide) rfl rfl rfl rfl rfl rfl rfl rfl rfl⟩, h2⟩
set_option maxHeartbeats 1000000 in
theorem rn_ratio {s : Nat → Int32} {a : Nat → Nat → Int32} {g : Nat → Option Nat} {ms : Nat → Int32} {ma : Nat → Nat → Int32} {rs : Nat → Nat → Nat} (H : zGN s a g ms ma rs) (a1 : Int32) : ∃ (x : Int64 × Int32) (y : Int64 × Int32 × Int32 × Int32), fX5_ratio (s 1) (s 3) (a 26) (a 24) a1 = some x ∧ fX7_ratio_n (ms 0) (ms 1) (ms 2) a1 = some y ∧ x.1 = y.1 ∧ zGN (zu s 3 x.2) a g (zu (zu (zu ms 0 y.2.1) 1 y.2.2.1) 2 y.2.2.2) ma rs := by
  obtain ⟨h1, hg, ⟨t, h0⟩, h2⟩ := H
  have e1 := nX_ratio s a a1
  rw [← h1] at e1
  exact ⟨_, _, e1, nM_ratio ms ma a1, rfl, h1, hg, ⟨t, zB0_q (t' := 1) h0 (by decide) rfl rfl rfl rfl rfl rfl rfl rfl rfl⟩, h2⟩
set_option maxHeartbeats 1000000 in
theorem rn_lines {s : Nat → Int32} {a : Nat → Nat → Int32} {g : Nat → Option Nat} {ms : Nat → Int32} {ma : Nat → Nat → Int32} {rs : Nat → Nat → Nat} (H : zGN s a g ms ma rs) : ∃ (x : Int32 × Int32) (y : Int32 × Int32 × Int32 × Int32), fX5_lines (s 1) (s 3) (a 24) = some x ∧ fX7_lines_n (ms 0) (ms 1) (ms 2) = some y ∧ x.1 = y.1 ∧ zGN (zu s 3 x.2) a g (zu (zu (zu ms 0 y.2.1) 1 y.2.2.1) 2 y.2.2.2) ma rs := by
  obtain ⟨h1, hg, ⟨t, h0⟩, h2⟩ := H
  have e1 := nX_lines s a 
  rw [← h1] at e1
  exact ⟨_, _, e1, nM_lines ms ma , rfl, h1, hg, ⟨t, zB0_q (t' := 1) h0 (by decide) rfl rfl rfl rfl rfl rfl rfl rfl rfl⟩, h2⟩
set_option maxHeartbeats 1000000 in
theorem rn_runHits {s : Nat → Int32} {a : Nat → Nat → Int32} {g : Nat → Option Nat} {ms : Nat → Int32} {ma : Nat → Nat → Int32} {rs : Nat → Nat → Nat} (H : zGN s a g ms ma rs) : ∃ (x : Int32 × Int32 × Int32 × Int32 × Int32 × Int32 × Int32 × Int32 × Int32 × Int32 × (Nat → Int32) × (Nat → Int32) × (Nat → Int32) × (Nat → Int32) × (Nat → Int32) × (Nat → Int32)) (y : Int32 × Int32 × Int32 × Int32), fX5_runHits (s 1) (s 3) (s 4) (s 5) (s 6) (s 8) (s 9) (s 37) (s 38) (s 39) (s 40) (s 41) (s 42) (s 43) (s 44) (a 4) (a 5) (a 6) (a 7) (a 8) (a 34) (a 32) (a 29) (a 33) (a 31) (a 30) = some x ∧ fX7_runHits_n (ms 0) (ms 1) (ms 2) = some y ∧ x.1 = y.1 ∧ zGN (zu (zu (zu (zu (zu (zu (zu (zu (zu s 3 x.2.1) 37 x.2.2.1) 38 x.2.2.2.1) 39 x.2.2.2.2.1) 40 x.2.2.2.2.2.1) 41 x.2.2.2.2.2.2.1) 42 x.2.2.2.2.2.2.2.1) 43 x.2.2.2.2.2.2.2.2.1) 44 x.2.2.2.2.2.2.2.2.2.1) (zu (zu (zu (zu (zu (zu a 34 x.2.2.2.2.2.2.2.2.2.2.1) 32 x.2.2.2.2.2.2.2.2.2.2.2.1) 29 x.2.2.2.2.2.2.2.2.2.2.2.2.1) 33 x.2.2.2.2.2.2.2.2.2.2.2.2.2.1) 31 x.2.2.2.2.2.2.2.2.2.2.2.2.2.2.1) 30 x.2.2.2.2.2.2.2.2.2.2.2.2.2.2.2) g (zu (zu (zu ms 0 y.2.1) 1 y.2.2.1) 2 y.2.2.2) ma rs := by
  obtain ⟨h1, hg, ⟨t, h0⟩, h2⟩ := H
  have e1 := nX_runHits s a 
  rw [← h1] at e1
  exact ⟨_, _, e1, nM_runHits ms ma , rfl, h1, hg, ⟨t, zB0_q (t' := 1) h0 (by decide) rfl rfl rfl rfl rfl rfl rfl rfl rfl⟩, h2⟩
set_option maxHeartbeats 1000000 in
theorem rn_runVictims {s : Nat → Int32} {a : Nat → Nat → Int32} {g : Nat → Option Nat} {ms : Nat → Int32} {ma : Nat → Nat → Int32} {rs : Nat → Nat → Nat} (H : zGN s a g ms ma rs) : ∃ (x : Int32 × Int32 × Int32 × Int32 × Int32 × Int32 × Int32 × Int32 × Int32 × Int32 × (Nat → Int32) × (Nat → Int32) × (Nat → Int32) × (Nat → Int32) × (Nat → Int32) × (Nat → Int32)) (y : Int32 × Int32 × Int32 × Int32), fX5_runVictims (s 1) (s 3) (s 4) (s 5) (s 6) (s 8) (s 9) (s 37) (s 38) (s 39) (s 40) (s 41) (s 42) (s 43) (s 44) (a 4) (a 5) (a 6) (a 7) (a 8) (a 34) (a 32) (a 29) (a 33) (a 31) (a 30) = some x ∧ fX7_runVictims_n (ms 0) (ms 1) (ms 2) = some y ∧ x.1 = y.1 ∧ zGN (zu (zu (zu (zu (zu (zu (zu (zu (zu s 3 x.2.1) 37 x.2.2.1) 38 x.2.2.2.1) 39 x.2.2.2.2.1) 40 x.2.2.2.2.2.1) 41 x.2.2.2.2.2.2.1) 42 x.2.2.2.2.2.2.2.1) 43 x.2.2.2.2.2.2.2.2.1) 44 x.2.2.2.2.2.2.2.2.2.1) (zu (zu (zu (zu (zu (zu a 34 x.2.2.2.2.2.2.2.2.2.2.1) 32 x.2.2.2.2.2.2.2.2.2.2.2.1) 29 x.2.2.2.2.2.2.2.2.2.2.2.2.1) 33 x.2.2.2.2.2.2.2.2.2.2.2.2.2.1) 31 x.2.2.2.2.2.2.2.2.2.2.2.2.2.2.1) 30 x.2.2.2.2.2.2.2.2.2.2.2.2.2.2.2) g (zu (zu (zu ms 0 y.2.1) 1 y.2.2.1) 2 y.2.2.2) ma rs := by
  obtain ⟨h1, hg, ⟨t, h0⟩, h2⟩ := H
  have e1 := nX_runVictims s a 
  rw [← h1] at e1
  exact ⟨_, _, e1, nM_runVictims ms ma , rfl, h1, hg, ⟨t, zB0_q (t' := 1) h0 (by decide) rfl rfl rfl rfl rfl rfl rfl rfl rfl⟩, h2⟩
set_option maxHeartbeats 1000000 in
theorem rn_runBacks {s : Nat → Int32} {a : Nat → Nat → Int32} {g : Nat → Option Nat} {ms : Nat → Int32} {ma : Nat → Nat → Int32} {rs : Nat → Nat → Nat} (H : zGN s a g ms ma rs) : ∃ (x : Int32 × Int32 × Int32 × Int32 × Int32 × Int32 × Int32 × Int32 × Int32 × Int32 × (Nat → Int32) × (Nat → Int32) × (Nat → Int32) × (Nat → Int32) × (Nat → Int32) × (Nat → Int32)) (y : Int32 × Int32 × Int32 × Int32), fX5_runBacks (s 1) (s 3) (s 4) (s 5) (s 6) (s 8) (s 9) (s 37) (s 38) (s 39) (s 40) (s 41) (s 42) (s 43) (s 44) (a 4) (a 5) (a 6) (a 7) (a 8) (a 34) (a 32) (a 29) (a 33) (a 31) (a 30) = some x ∧ fX7_runBacks_n (ms 0) (ms 1) (ms 2) = some y ∧ x.1 = y.1 ∧ zGN (zu (zu (zu (zu (zu (zu (zu (zu (zu s 3 x.2.1) 37 x.2.2.1) 38 x.2.2.2.1) 39 x.2.2.2.2.1) 40 x.2.2.2.2.2.1) 41 x.2.2.2.2.2.2.1) 42 x.2.2.2.2.2.2.2.1) 43 x.2.2.2.2.2.2.2.2.1) 44 x.2.2.2.2.2.2.2.2.2.1) (zu (zu (zu (zu (zu (zu a 34 x.2.2.2.2.2.2.2.2.2.2.1) 32 x.2.2.2.2.2.2.2.2.2.2.2.1) 29 x.2.2.2.2.2.2.2.2.2.2.2.2.1) 33 x.2.2.2.2.2.2.2.2.2.2.2.2.2.1) 31 x.2.2.2.2.2.2.2.2.2.2.2.2.2.2.1) 30 x.2.2.2.2.2.2.2.2.2.2.2.2.2.2.2) g (zu (zu (zu ms 0 y.2.1) 1 y.2.2.1) 2 y.2.2.2) ma rs := by
  obtain ⟨h1, hg, ⟨t, h0⟩, h2⟩ := H
  have e1 := nX_runBacks s a 
  rw [← h1] at e1
  exact ⟨_, _, e1, nM_runBacks ms ma , rfl, h1, hg, ⟨t, zB0_q (t' := 1) h0 (by decide) rfl rfl rfl rfl rfl rfl rfl rfl rfl⟩, h2⟩
set_option maxHeartbeats 1000000 in
theorem rn_runStep {s : Nat → Int32} {a : Nat → Nat → Int32} {g : Nat → Option Nat} {ms : Nat → Int32} {ma : Nat → Nat → Int32} {rs : Nat → Nat → Nat} (H : zGN s a g ms ma rs) (a1 : Int32) : ∃ (x : Int32 × Int32 × Int32 × Int32 × Int32 × Int32 × Int32 × Int32 × Int32 × Int32 × (Nat → Int32) × (Nat → Int32) × (Nat → Int32) × (Nat → Int32) × (Nat → Int32) × (Nat → Int32)) (y : Int32 × Int32 × Int32 × Int32), fX5_runStep (s 1) (s 3) (s 4) (s 5) (s 6) (s 8) (s 9) (s 37) (s 38) (s 39) (s 40) (s 41) (s 42) (s 43) (s 44) (a 4) (a 5) (a 6) (a 7) (a 8) (a 34) (a 32) (a 29) (a 33) (a 31) (a 30) a1 = some x ∧ fX7_runStep_n (ms 0) (ms 1) (ms 2) a1 = some y ∧ x.1 = y.1 ∧ zGN (zu (zu (zu (zu (zu (zu (zu (zu (zu s 3 x.2.1) 37 x.2.2.1) 38 x.2.2.2.1) 39 x.2.2.2.2.1) 40 x.2.2.2.2.2.1) 41 x.2.2.2.2.2.2.1) 42 x.2.2.2.2.2.2.2.1) 43 x.2.2.2.2.2.2.2.2.1) 44 x.2.2.2.2.2.2.2.2.2.1) (zu (zu (zu (zu (zu (zu a 34 x.2.2.2.2.2.2.2.2.2.2.1) 32 x.2.2.2.2.2.2.2.2.2.2.2.1) 29 x.2.2.2.2.2.2.2.2.2.2.2.2.1) 33 x.2.2.2.2.2.2.2.2.2.2.2.2.2.1) 31 x.2.2.2.2.2.2.2.2.2.2.2.2.2.2.1) 30 x.2.2.2.2.2.2.2.2.2.2.2.2.2.2.2) g (zu (zu (zu ms 0 y.2.1) 1 y.2.2.1) 2 y.2.2.2) ma rs := by
  obtain ⟨h1, hg, ⟨t, h0⟩, h2⟩ := H
  have e1 := nX_runStep s a a1
  rw [← h1] at e1
  exact ⟨_, _, e1, nM_runStep ms ma a1, rfl, h1, hg, ⟨t, zB0_q (t' := 1) h0 (by decide) rfl rfl rfl rfl rfl rfl rfl rfl rfl⟩, h2⟩
set_option maxHeartbeats 1000000 in
theorem rn_plainHits {s : Nat → Int32} {a : Nat → Nat → Int32} {g : Nat → Option Nat} {ms : Nat → Int32} {ma : Nat → Nat → Int32} {rs : Nat → Nat → Nat} (H : zGN s a g ms ma rs) : ∃ (x : Int32 × Int32 × Int32 × Int32 × Int32 × Int32 × Int32 × Int32 × Int32 × Int32 × (Nat → Int32) × (Nat → Int32) × (Nat → Int32) × (Nat → Int32) × (Nat → Int32) × (Nat → Int32)) (y : Int32 × Int32 × Int32 × Int32), fX5_plainHits (s 1) (s 3) (s 4) (s 5) (s 6) (s 8) (s 9) (s 37) (s 38) (s 39) (s 40) (s 41) (s 42) (s 43) (s 44) (a 4) (a 5) (a 6) (a 7) (a 8) (a 34) (a 32) (a 29) (a 33) (a 31) (a 30) = some x ∧ fX7_plainHits_n (ms 0) (ms 1) (ms 2) = some y ∧ x.1 = y.1 ∧ zGN (zu (zu (zu (zu (zu (zu (zu (zu (zu s 3 x.2.1) 37 x.2.2.1) 38 x.2.2.2.1) 39 x.2.2.2.2.1) 40 x.2.2.2.2.2.1) 41 x.2.2.2.2.2.2.1) 42 x.2.2.2.2.2.2.2.1) 43 x.2.2.2.2.2.2.2.2.1) 44 x.2.2.2.2.2.2.2.2.2.1) (zu (zu (zu (zu (zu (zu a 34 x.2.2.2.2.2.2.2.2.2.2.1) 32 x.2.2.2.2.2.2.2.2.2.2.2.1) 29 x.2.2.2.2.2.2.2.2.2.2.2.2.1) 33 x.2.2.2.2.2.2.2.2.2.2.2.2.2.1) 31 x.2.2.2.2.2.2.2.2.2.2.2.2.2.2.1) 30 x.2.2.2.2.2.2.2.2.2.2.2.2.2.2.2) g (zu (zu (zu ms 0 y.2.1) 1 y.2.2.1) 2 y.2.2.2) ma rs := by
  obtain ⟨h1, hg, ⟨t, h0⟩, h2⟩ := H
  have e1 := nX_plainHits s a 
  rw [← h1] at e1
  exact ⟨_, _, e1, nM_plainHits ms ma , rfl, h1, hg, ⟨t, zB0_q (t' := 1) h0 (by decide) rfl rfl rfl rfl rfl rfl rfl rfl rfl⟩, h2⟩
set_option maxHeartbeats 1000000 in
theorem rn_plainBacks {s : Nat → Int32} {a : Nat → Nat → Int32} {g : Nat → Option Nat} {ms : Nat → Int32} {ma : Nat → Nat → Int32} {rs : Nat → Nat → Nat} (H : zGN s a g ms ma rs) : ∃ (x : Int32 × Int32 × Int32 × Int32 × Int32 × Int32 × Int32 × Int32 × Int32 × Int32 × (Nat → Int32) × (Nat → Int32) × (Nat → Int32) × (Nat → Int32) × (Nat → Int32) × (Nat → Int32)) (y : Int32 × Int32 × Int32 × Int32), fX5_plainBacks (s 1) (s 3) (s 4) (s 5) (s 6) (s 8) (s 9) (s 37) (s 38) (s 39) (s 40) (s 41) (s 42) (s 43) (s 44) (a 4) (a 5) (a 6) (a 7) (a 8) (a 34) (a 32) (a 29) (a 33) (a 31) (a 30) = some x ∧ fX7_plainBacks_n (ms 0) (ms 1) (ms 2) = some y ∧ x.1 = y.1 ∧ zGN (zu (zu (zu (zu (zu (zu (zu (zu (zu s 3 x.2.1) 37 x.2.2.1) 38 x.2.2.2.1) 39 x.2.2.2.2.1) 40 x.2.2.2.2.2.1) 41 x.2.2.2.2.2.2.1) 42 x.2.2.2.2.2.2.2.1) 43 x.2.2.2.2.2.2.2.2.1) 44 x.2.2.2.2.2.2.2.2.2.1) (zu (zu (zu (zu (zu (zu a 34 x.2.2.2.2.2.2.2.2.2.2.1) 32 x.2.2.2.2.2.2.2.2.2.2.2.1) 29 x.2.2.2.2.2.2.2.2.2.2.2.2.1) 33 x.2.2.2.2.2.2.2.2.2.2.2.2.2.1) 31 x.2.2.2.2.2.2.2.2.2.2.2.2.2.2.1) 30 x.2.2.2.2.2.2.2.2.2.2.2.2.2.2.2) g (zu (zu (zu ms 0 y.2.1) 1 y.2.2.1) 2 y.2.2.2) ma rs := by
  obtain ⟨h1, hg, ⟨t, h0⟩, h2⟩ := H
  have e1 := nX_plainBacks s a 
  rw [← h1] at e1
  exact ⟨_, _, e1, nM_plainBacks ms ma , rfl, h1, hg, ⟨t, zB0_q (t' := 1) h0 (by decide) rfl rfl rfl rfl rfl rfl rfl rfl rfl⟩, h2⟩
set_option maxHeartbeats 1000000 in
theorem rn_hitsBy {s : Nat → Int32} {a : Nat → Nat → Int32} {g : Nat → Option Nat} {ms : Nat → Int32} {ma : Nat → Nat → Int32} {rs : Nat → Nat → Nat} (H : zGN s a g ms ma rs) (a1 : Int32) : ∃ (x : Int32 × Int32 × Int32 × Int32 × Int32 × Int32 × Int32 × Int32 × Int32 × Int32 × (Nat → Int32) × (Nat → Int32) × (Nat → Int32) × (Nat → Int32) × (Nat → Int32) × (Nat → Int32)) (y : Int32 × Int32 × Int32 × Int32), fX5_hitsBy (s 1) (s 3) (s 4) (s 6) (s 8) (s 9) (s 37) (s 38) (s 39) (s 40) (s 41) (s 42) (s 43) (s 44) (a 4) (a 5) (a 6) (a 7) (a 8) (a 34) (a 32) (a 29) (a 33) (a 31) (a 30) a1 = some x ∧ fX7_hitsBy_n (ms 0) (ms 1) (ms 2) a1 = some y ∧ x.1 = y.1 ∧ zGN (zu (zu (zu (zu (zu (zu (zu (zu (zu s 3 x.2.1) 37 x.2.2.1) 38 x.2.2.2.1) 39 x.2.2.2.2.1) 40 x.2.2.2.2.2.1) 41 x.2.2.2.2.2.2.1) 42 x.2.2.2.2.2.2.2.1) 43 x.2.2.2.2.2.2.2.2.1) 44 x.2.2.2.2.2.2.2.2.2.1) (zu (zu (zu (zu (zu (zu a 34 x.2.2.2.2.2.2.2.2.2.2.1) 32 x.2.2.2.2.2.2.2.2.2.2.2.1) 29 x.2.2.2.2.2.2.2.2.2.2.2.2.1) 33 x.2.2.2.2.2.2.2.2.2.2.2.2.2.1) 31 x.2.2.2.2.2.2.2.2.2.2.2.2.2.2.1) 30 x.2.2.2.2.2.2.2.2.2.2.2.2.2.2.2) g (zu (zu (zu ms 0 y.2.1) 1 y.2.2.1) 2 y.2.2.2) ma rs := by
  obtain ⟨h1, hg, ⟨t, h0⟩, h2⟩ := H
  have e1 := nX_hitsBy s a a1
  rw [← h1] at e1
  exact ⟨_, _, e1, nM_hitsBy ms ma a1, rfl, h1, hg, ⟨t, zB0_q (t' := 1) h0 (by decide) rfl rfl rfl rfl rfl rfl rfl rfl rfl⟩, h2⟩
set_option maxHeartbeats 1000000 in
theorem rn_waysFor {s : Nat → Int32} {a : Nat → Nat → Int32} {g : Nat → Option Nat} {ms : Nat → Int32} {ma : Nat → Nat → Int32} {rs : Nat → Nat → Nat} (H : zGN s a g ms ma rs) (a1 : Int32) : ∃ (x : Int32 × Int32 × Int32 × Int32 × Int32 × Int32 × Int32 × Int32 × Int32 × Int32 × (Nat → Int32) × (Nat → Int32) × (Nat → Int32) × (Nat → Int32) × (Nat → Int32) × (Nat → Int32)) (y : Int32 × Int32 × Int32 × Int32), fX5_waysFor (s 1) (s 3) (s 4) (s 6) (s 8) (s 9) (s 37) (s 38) (s 39) (s 40) (s 41) (s 42) (s 43) (s 44) (a 4) (a 5) (a 6) (a 7) (a 8) (a 34) (a 32) (a 29) (a 33) (a 31) (a 30) a1 = some x ∧ fX7_waysFor_n (ms 0) (ms 1) (ms 2) a1 = some y ∧ x.1 = y.1 ∧ zGN (zu (zu (zu (zu (zu (zu (zu (zu (zu s 3 x.2.1) 37 x.2.2.1) 38 x.2.2.2.1) 39 x.2.2.2.2.1) 40 x.2.2.2.2.2.1) 41 x.2.2.2.2.2.2.1) 42 x.2.2.2.2.2.2.2.1) 43 x.2.2.2.2.2.2.2.2.1) 44 x.2.2.2.2.2.2.2.2.2.1) (zu (zu (zu (zu (zu (zu a 34 x.2.2.2.2.2.2.2.2.2.2.1) 32 x.2.2.2.2.2.2.2.2.2.2.2.1) 29 x.2.2.2.2.2.2.2.2.2.2.2.2.1) 33 x.2.2.2.2.2.2.2.2.2.2.2.2.2.1) 31 x.2.2.2.2.2.2.2.2.2.2.2.2.2.2.1) 30 x.2.2.2.2.2.2.2.2.2.2.2.2.2.2.2) g (zu (zu (zu ms 0 y.2.1) 1 y.2.2.1) 2 y.2.2.2) ma rs := by
  obtain ⟨h1, hg, ⟨t, h0⟩, h2⟩ := H
  have e1 := nX_waysFor s a a1
  rw [← h1] at e1
  exact ⟨_, _, e1, nM_waysFor ms ma a1, rfl, h1, hg, ⟨t, zB0_q (t' := 1) h0 (by decide) rfl rfl rfl rfl rfl rfl rfl rfl rfl⟩, h2⟩
set_option maxHeartbeats 1000000 in
theorem rn_fits {s : Nat → Int32} {a : Nat → Nat → Int32} {g : Nat → Option Nat} {ms : Nat → Int32} {ma : Nat → Nat → Int32} {rs : Nat → Nat → Nat} (H : zGN s a g ms ma rs) : ∃ (x : Int32 × Int32 × Int32 × Int32 × Int32 × Int32 × Int32 × Int32 × Int32 × Int32 × Int32 × Int32 × (Nat → Int32) × (Nat → Int32) × (Nat → Int32) × (Nat → Int32) × (Nat → Int32) × (Nat → Int32)) (y : Int32 × Int32 × Int32 × Int32), fX5_fits (s 1) (s 3) (s 4) (s 5) (s 6) (s 8) (s 9) (s 10) (s 11) (s 12) (s 37) (s 38) (s 39) (s 40) (s 41) (s 42) (s 43) (s 44) (a 4) (a 10) (a 9) (a 5) (a 6) (a 7) (a 8) (a 34) (a 32) (a 29) (a 33) (a 31) (a 30) = some x ∧ fX7_fits_n (ms 0) (ms 1) (ms 2) = some y ∧ x.1 = y.1 ∧ zGN (zu (zu (zu (zu (zu (zu (zu (zu (zu (zu (zu s 3 x.2.1) 11 x.2.2.1) 12 x.2.2.2.1) 37 x.2.2.2.2.1) 38 x.2.2.2.2.2.1) 39 x.2.2.2.2.2.2.1) 40 x.2.2.2.2.2.2.2.1) 41 x.2.2.2.2.2.2.2.2.1) 42 x.2.2.2.2.2.2.2.2.2.1) 43 x.2.2.2.2.2.2.2.2.2.2.1) 44 x.2.2.2.2.2.2.2.2.2.2.2.1) (zu (zu (zu (zu (zu (zu a 34 x.2.2.2.2.2.2.2.2.2.2.2.2.1) 32 x.2.2.2.2.2.2.2.2.2.2.2.2.2.1) 29 x.2.2.2.2.2.2.2.2.2.2.2.2.2.2.1) 33 x.2.2.2.2.2.2.2.2.2.2.2.2.2.2.2.1) 31 x.2.2.2.2.2.2.2.2.2.2.2.2.2.2.2.2.1) 30 x.2.2.2.2.2.2.2.2.2.2.2.2.2.2.2.2.2) g (zu (zu (zu ms 0 y.2.1) 1 y.2.2.1) 2 y.2.2.2) ma rs := by
  obtain ⟨h1, hg, ⟨t, h0⟩, h2⟩ := H
  have e1 := nX_fits s a 
  rw [← h1] at e1
  exact ⟨_, _, e1, nM_fits ms ma , rfl, h1, hg, ⟨t, zB0_q (t' := 1) h0 (by decide) rfl rfl rfl rfl rfl rfl rfl rfl rfl⟩, h2⟩
set_option maxHeartbeats 1000000 in
theorem rn_fitAt {s : Nat → Int32} {a : Nat → Nat → Int32} {g : Nat → Option Nat} {ms : Nat → Int32} {ma : Nat → Nat → Int32} {rs : Nat → Nat → Nat} (H : zGN s a g ms ma rs) (a1 : Int32) : ∃ (x : Int32 × Int32 × Int32 × Int32 × Int32 × Int32 × Int32 × Int32 × Int32 × Int32 × Int32 × Int32 × (Nat → Int32) × (Nat → Int32) × (Nat → Int32) × (Nat → Int32) × (Nat → Int32) × (Nat → Int32)) (y : Int32 × Int32 × Int32 × Int32), fX5_fitAt (s 1) (s 3) (s 4) (s 5) (s 6) (s 8) (s 9) (s 10) (s 11) (s 12) (s 37) (s 38) (s 39) (s 40) (s 41) (s 42) (s 43) (s 44) (a 4) (a 10) (a 9) (a 5) (a 6) (a 7) (a 8) (a 34) (a 32) (a 29) (a 33) (a 31) (a 30) a1 = some x ∧ fX7_fitAt_n (ms 0) (ms 1) (ms 2) a1 = some y ∧ x.1 = y.1 ∧ zGN (zu (zu (zu (zu (zu (zu (zu (zu (zu (zu (zu s 3 x.2.1) 11 x.2.2.1) 12 x.2.2.2.1) 37 x.2.2.2.2.1) 38 x.2.2.2.2.2.1) 39 x.2.2.2.2.2.2.1) 40 x.2.2.2.2.2.2.2.1) 41 x.2.2.2.2.2.2.2.2.1) 42 x.2.2.2.2.2.2.2.2.2.1) 43 x.2.2.2.2.2.2.2.2.2.2.1) 44 x.2.2.2.2.2.2.2.2.2.2.2.1) (zu (zu (zu (zu (zu (zu a 34 x.2.2.2.2.2.2.2.2.2.2.2.2.1) 32 x.2.2.2.2.2.2.2.2.2.2.2.2.2.1) 29 x.2.2.2.2.2.2.2.2.2.2.2.2.2.2.1) 33 x.2.2.2.2.2.2.2.2.2.2.2.2.2.2.2.1) 31 x.2.2.2.2.2.2.2.2.2.2.2.2.2.2.2.2.1) 30 x.2.2.2.2.2.2.2.2.2.2.2.2.2.2.2.2.2) g (zu (zu (zu ms 0 y.2.1) 1 y.2.2.1) 2 y.2.2.2) ma rs := by
  obtain ⟨h1, hg, ⟨t, h0⟩, h2⟩ := H
  have e1 := nX_fitAt s a a1
  rw [← h1] at e1
  exact ⟨_, _, e1, nM_fitAt ms ma a1, rfl, h1, hg, ⟨t, zB0_q (t' := 1) h0 (by decide) rfl rfl rfl rfl rfl rfl rfl rfl rfl⟩, h2⟩
set_option maxHeartbeats 1000000 in
theorem rn_could {s : Nat → Int32} {a : Nat → Nat → Int32} {g : Nat → Option Nat} {ms : Nat → Int32} {ma : Nat → Nat → Int32} {rs : Nat → Nat → Nat} (H : zGN s a g ms ma rs) : ∃ (x : Int32 × Int32 × Int32 × Int32 × Int32 × Int32 × Int32 × Int32 × Int32 × Int32 × Int32 × Int32 × (Nat → Int32) × (Nat → Int32) × (Nat → Int32) × (Nat → Int32) × (Nat → Int32) × (Nat → Int32)) (y : Int32 × Int32 × Int32 × Int32), fX5_could (s 1) (s 3) (s 4) (s 5) (s 6) (s 8) (s 9) (s 10) (s 11) (s 12) (s 37) (s 38) (s 39) (s 40) (s 41) (s 42) (s 43) (s 44) (a 4) (a 10) (a 9) (a 5) (a 6) (a 7) (a 8) (a 34) (a 32) (a 29) (a 33) (a 31) (a 30) = some x ∧ fX7_could_n (ms 0) (ms 1) (ms 2) = some y ∧ x.1 = y.1 ∧ zGN (zu (zu (zu (zu (zu (zu (zu (zu (zu (zu (zu s 3 x.2.1) 11 x.2.2.1) 12 x.2.2.2.1) 37 x.2.2.2.2.1) 38 x.2.2.2.2.2.1) 39 x.2.2.2.2.2.2.1) 40 x.2.2.2.2.2.2.2.1) 41 x.2.2.2.2.2.2.2.2.1) 42 x.2.2.2.2.2.2.2.2.2.1) 43 x.2.2.2.2.2.2.2.2.2.2.1) 44 x.2.2.2.2.2.2.2.2.2.2.2.1) (zu (zu (zu (zu (zu (zu a 34 x.2.2.2.2.2.2.2.2.2.2.2.2.1) 32 x.2.2.2.2.2.2.2.2.2.2.2.2.2.1) 29 x.2.2.2.2.2.2.2.2.2.2.2.2.2.2.1) 33 x.2.2.2.2.2.2.2.2.2.2.2.2.2.2.2.1) 31 x.2.2.2.2.2.2.2.2.2.2.2.2.2.2.2.2.1) 30 x.2.2.2.2.2.2.2.2.2.2.2.2.2.2.2.2.2) g (zu (zu (zu ms 0 y.2.1) 1 y.2.2.1) 2 y.2.2.2) ma rs := by
  obtain ⟨h1, hg, ⟨t, h0⟩, h2⟩ := H
  have e1 := nX_could s a 
  rw [← h1] at e1
  exact ⟨_, _, e1, nM_could ms ma , rfl, h1, hg, ⟨t, zB0_q (t' := 1) h0 (by decide) rfl rfl rfl rfl rfl rfl rfl rfl rfl⟩, h2⟩
set_option maxHeartbeats 1000000 in
theorem rn_surely {s : Nat → Int32} {a : Nat → Nat → Int32} {g : Nat → Option Nat} {ms : Nat → Int32} {ma : Nat → Nat → Int32} {rs : Nat → Nat → Nat} (H : zGN s a g ms ma rs) : ∃ (x : Int32 × Int32 × Int32 × Int32 × Int32 × Int32 × Int32 × Int32 × Int32 × Int32 × Int32 × Int32 × (Nat → Int32) × (Nat → Int32) × (Nat → Int32) × (Nat → Int32) × (Nat → Int32) × (Nat → Int32)) (y : Int32 × Int32 × Int32 × Int32), fX5_surely (s 1) (s 3) (s 4) (s 5) (s 6) (s 8) (s 9) (s 10) (s 11) (s 12) (s 37) (s 38) (s 39) (s 40) (s 41) (s 42) (s 43) (s 44) (a 4) (a 10) (a 9) (a 5) (a 6) (a 7) (a 8) (a 34) (a 32) (a 29) (a 33) (a 31) (a 30) = some x ∧ fX7_surely_n (ms 0) (ms 1) (ms 2) = some y ∧ x.1 = y.1 ∧ zGN (zu (zu (zu (zu (zu (zu (zu (zu (zu (zu (zu s 3 x.2.1) 11 x.2.2.1) 12 x.2.2.2.1) 37 x.2.2.2.2.1) 38 x.2.2.2.2.2.1) 39 x.2.2.2.2.2.2.1) 40 x.2.2.2.2.2.2.2.1) 41 x.2.2.2.2.2.2.2.2.1) 42 x.2.2.2.2.2.2.2.2.2.1) 43 x.2.2.2.2.2.2.2.2.2.2.1) 44 x.2.2.2.2.2.2.2.2.2.2.2.1) (zu (zu (zu (zu (zu (zu a 34 x.2.2.2.2.2.2.2.2.2.2.2.2.1) 32 x.2.2.2.2.2.2.2.2.2.2.2.2.2.1) 29 x.2.2.2.2.2.2.2.2.2.2.2.2.2.2.1) 33 x.2.2.2.2.2.2.2.2.2.2.2.2.2.2.2.1) 31 x.2.2.2.2.2.2.2.2.2.2.2.2.2.2.2.2.1) 30 x.2.2.2.2.2.2.2.2.2.2.2.2.2.2.2.2.2) g (zu (zu (zu ms 0 y.2.1) 1 y.2.2.1) 2 y.2.2.2) ma rs := by
  obtain ⟨h1, hg, ⟨t, h0⟩, h2⟩ := H
  have e1 := nX_surely s a 
  rw [← h1] at e1
  exact ⟨_, _, e1, nM_surely ms ma , rfl, h1, hg, ⟨t, zB0_q (t' := 1) h0 (by decide) rfl rfl rfl rfl rfl rfl rfl rfl rfl⟩, h2⟩
set_option maxHeartbeats 1000000 in
theorem rn_ask {s : Nat → Int32} {a : Nat → Nat → Int32} {g : Nat → Option Nat} {ms : Nat → Int32} {ma : Nat → Nat → Int32} {rs : Nat → Nat → Nat} (H : zGN s a g ms ma rs) : ∃ (x : Int32 × Int32 × Int32 × Int32 × Int32 × Int32 × Int32 × Int32 × Int32 × Int32 × Int32 × Int32 × (Nat → Int32) × (Nat → Int32) × (Nat → Int32) × (Nat → Int32) × (Nat → Int32) × (Nat → Int32)) (y : Int32 × Int32 × Int32 × Int32), fX5_ask (s 1) (s 3) (s 4) (s 5) (s 6) (s 8) (s 9) (s 10) (s 11) (s 12) (s 37) (s 38) (s 39) (s 40) (s 41) (s 42) (s 43) (s 44) (a 4) (a 10) (a 9) (a 5) (a 6) (a 7) (a 8) (a 34) (a 32) (a 29) (a 33) (a 31) (a 30) = some x ∧ fX7_ask_n (ms 0) (ms 1) (ms 2) = some y ∧ x.1 = y.1 ∧ zGN (zu (zu (zu (zu (zu (zu (zu (zu (zu (zu (zu s 3 x.2.1) 11 x.2.2.1) 12 x.2.2.2.1) 37 x.2.2.2.2.1) 38 x.2.2.2.2.2.1) 39 x.2.2.2.2.2.2.1) 40 x.2.2.2.2.2.2.2.1) 41 x.2.2.2.2.2.2.2.2.1) 42 x.2.2.2.2.2.2.2.2.2.1) 43 x.2.2.2.2.2.2.2.2.2.2.1) 44 x.2.2.2.2.2.2.2.2.2.2.2.1) (zu (zu (zu (zu (zu (zu a 34 x.2.2.2.2.2.2.2.2.2.2.2.2.1) 32 x.2.2.2.2.2.2.2.2.2.2.2.2.2.1) 29 x.2.2.2.2.2.2.2.2.2.2.2.2.2.2.1) 33 x.2.2.2.2.2.2.2.2.2.2.2.2.2.2.2.1) 31 x.2.2.2.2.2.2.2.2.2.2.2.2.2.2.2.2.1) 30 x.2.2.2.2.2.2.2.2.2.2.2.2.2.2.2.2.2) g (zu (zu (zu ms 0 y.2.1) 1 y.2.2.1) 2 y.2.2.2) ma rs := by
  obtain ⟨h1, hg, ⟨t, h0⟩, h2⟩ := H
  have e1 := nX_ask s a 
  rw [← h1] at e1
  exact ⟨_, _, e1, nM_ask ms ma , rfl, h1, hg, ⟨t, zB0_q (t' := 1) h0 (by decide) rfl rfl rfl rfl rfl rfl rfl rfl rfl⟩, h2⟩
set_option maxHeartbeats 1000000 in
theorem rn_askLeaves {s : Nat → Int32} {a : Nat → Nat → Int32} {g : Nat → Option Nat} {ms : Nat → Int32} {ma : Nat → Nat → Int32} {rs : Nat → Nat → Nat} (H : zGN s a g ms ma rs) : ∃ (x : Int32 × Int32 × Int32 × Int32 × Int32 × Int32 × Int32 × Int32 × Int32 × Int32 × Int32 × Int32 × (Nat → Int32) × (Nat → Int32) × (Nat → Int32) × (Nat → Int32) × (Nat → Int32) × (Nat → Int32)) (y : Int32 × Int32 × Int32 × Int32), fX5_askLeaves (s 1) (s 3) (s 4) (s 5) (s 6) (s 8) (s 9) (s 10) (s 11) (s 12) (s 37) (s 38) (s 39) (s 40) (s 41) (s 42) (s 43) (s 44) (a 4) (a 10) (a 9) (a 5) (a 6) (a 7) (a 8) (a 34) (a 32) (a 29) (a 33) (a 31) (a 30) = some x ∧ fX7_askLeaves_n (ms 0) (ms 1) (ms 2) = some y ∧ x.1 = y.1 ∧ zGN (zu (zu (zu (zu (zu (zu (zu (zu (zu (zu (zu s 3 x.2.1) 11 x.2.2.1) 12 x.2.2.2.1) 37 x.2.2.2.2.1) 38 x.2.2.2.2.2.1) 39 x.2.2.2.2.2.2.1) 40 x.2.2.2.2.2.2.2.1) 41 x.2.2.2.2.2.2.2.2.1) 42 x.2.2.2.2.2.2.2.2.2.1) 43 x.2.2.2.2.2.2.2.2.2.2.1) 44 x.2.2.2.2.2.2.2.2.2.2.2.1) (zu (zu (zu (zu (zu (zu a 34 x.2.2.2.2.2.2.2.2.2.2.2.2.1) 32 x.2.2.2.2.2.2.2.2.2.2.2.2.2.1) 29 x.2.2.2.2.2.2.2.2.2.2.2.2.2.2.1) 33 x.2.2.2.2.2.2.2.2.2.2.2.2.2.2.2.1) 31 x.2.2.2.2.2.2.2.2.2.2.2.2.2.2.2.2.1) 30 x.2.2.2.2.2.2.2.2.2.2.2.2.2.2.2.2.2) g (zu (zu (zu ms 0 y.2.1) 1 y.2.2.1) 2 y.2.2.2) ma rs := by
  obtain ⟨h1, hg, ⟨t, h0⟩, h2⟩ := H
  have e1 := nX_askLeaves s a 
  rw [← h1] at e1
  exact ⟨_, _, e1, nM_askLeaves ms ma , rfl, h1, hg, ⟨t, zB0_q (t' := 1) h0 (by decide) rfl rfl rfl rfl rfl rfl rfl rfl rfl⟩, h2⟩
set_option maxHeartbeats 1000000 in
theorem rn_judge {s : Nat → Int32} {a : Nat → Nat → Int32} {g : Nat → Option Nat} {ms : Nat → Int32} {ma : Nat → Nat → Int32} {rs : Nat → Nat → Nat} (H : zGN s a g ms ma rs) : ∃ (x : Int32 × Int32 × Int32 × Int32 × Int32 × Int32 × Int32 × Int32 × Int32 × Int32 × (Nat → Int32) × (Nat → Int32) × (Nat → Int32) × (Nat → Int32) × (Nat → Int32) × (Nat → Int32)) (y : Int32 × Int32 × Int32 × Int32), fX5_judge (s 1) (s 3) (s 4) (s 5) (s 6) (s 8) (s 9) (s 10) (s 37) (s 38) (s 39) (s 40) (s 41) (s 42) (s 43) (s 44) (a 4) (a 10) (a 9) (a 5) (a 6) (a 7) (a 8) (a 34) (a 32) (a 29) (a 33) (a 31) (a 30) = some x ∧ fX7_judge_n (ms 0) (ms 1) (ms 2) = some y ∧ x.1 = y.1 ∧ zGN (zu (zu (zu (zu (zu (zu (zu (zu (zu s 3 x.2.1) 37 x.2.2.1) 38 x.2.2.2.1) 39 x.2.2.2.2.1) 40 x.2.2.2.2.2.1) 41 x.2.2.2.2.2.2.1) 42 x.2.2.2.2.2.2.2.1) 43 x.2.2.2.2.2.2.2.2.1) 44 x.2.2.2.2.2.2.2.2.2.1) (zu (zu (zu (zu (zu (zu a 34 x.2.2.2.2.2.2.2.2.2.2.1) 32 x.2.2.2.2.2.2.2.2.2.2.2.1) 29 x.2.2.2.2.2.2.2.2.2.2.2.2.1) 33 x.2.2.2.2.2.2.2.2.2.2.2.2.2.1) 31 x.2.2.2.2.2.2.2.2.2.2.2.2.2.2.1) 30 x.2.2.2.2.2.2.2.2.2.2.2.2.2.2.2) g (zu (zu (zu ms 0 y.2.1) 1 y.2.2.1) 2 y.2.2.2) ma rs := by
  obtain ⟨h1, hg, ⟨t, h0⟩, h2⟩ := H
  have e1 := nX_judge s a 
  rw [← h1] at e1
  exact ⟨_, _, e1, nM_judge ms ma , rfl, h1, hg, ⟨t, zB0_q (t' := 1) h0 (by decide) rfl rfl rfl rfl rfl rfl rfl rfl rfl⟩, h2⟩
set_option maxHeartbeats 1000000 in
theorem rn_drawnHits {s : Nat → Int32} {a : Nat → Nat → Int32} {g : Nat → Option Nat} {ms : Nat → Int32} {ma : Nat → Nat → Int32} {rs : Nat → Nat → Nat} (H : zGN s a g ms ma rs) (a1 : Int32) (a2 : Int32) : ∃ (x : Int32 × Int32 × Int32 × Int32 × Int32 × Int32 × Int32 × Int32 × Int32 × Int32 × (Nat → Int32) × (Nat → Int32) × (Nat → Int32) × (Nat → Int32) × (Nat → Int32) × (Nat → Int32)) (y : Int32 × Int32 × Int32 × Int32), fX5_drawnHits (s 1) (s 3) (s 29) (s 30) (s 31) (s 32) (s 33) (s 37) (s 38) (s 39) (s 40) (s 41) (s 42) (s 43) (s 44) (a 27) (a 25) (a 22) (a 26) (a 24) (a 23) (a 34) (a 32) (a 29) (a 33) (a 31) (a 30) a1 a2 = some x ∧ fX7_drawnHits_n (ms 0) (ms 1) (ms 2) a1 a2 = some y ∧ x.1 = y.1 ∧ zGN (zu (zu (zu (zu (zu (zu (zu (zu (zu s 3 x.2.1) 37 x.2.2.1) 38 x.2.2.2.1) 39 x.2.2.2.2.1) 40 x.2.2.2.2.2.1) 41 x.2.2.2.2.2.2.1) 42 x.2.2.2.2.2.2.2.1) 43 x.2.2.2.2.2.2.2.2.1) 44 x.2.2.2.2.2.2.2.2.2.1) (zu (zu (zu (zu (zu (zu a 34 x.2.2.2.2.2.2.2.2.2.2.1) 32 x.2.2.2.2.2.2.2.2.2.2.2.1) 29 x.2.2.2.2.2.2.2.2.2.2.2.2.1) 33 x.2.2.2.2.2.2.2.2.2.2.2.2.2.1) 31 x.2.2.2.2.2.2.2.2.2.2.2.2.2.2.1) 30 x.2.2.2.2.2.2.2.2.2.2.2.2.2.2.2) g (zu (zu (zu ms 0 y.2.1) 1 y.2.2.1) 2 y.2.2.2) ma rs := by
  obtain ⟨h1, hg, ⟨t, h0⟩, h2⟩ := H
  have e1 := nX_drawnHits s a a1 a2
  rw [← h1] at e1
  exact ⟨_, _, e1, nM_drawnHits ms ma a1 a2, rfl, h1, hg, ⟨t, zB0_q (t' := 1) h0 (by decide) rfl rfl rfl rfl rfl rfl rfl rfl rfl⟩, h2⟩
set_option maxHeartbeats 1000000 in
theorem rn_drawnBacks {s : Nat → Int32} {a : Nat → Nat → Int32} {g : Nat → Option Nat} {ms : Nat → Int32} {ma : Nat → Nat → Int32} {rs : Nat → Nat → Nat} (H : zGN s a g ms ma rs) (a1 : Int32) (a2 : Int32) : ∃ (x : Int32 × Int32 × Int32 × Int32 × Int32 × Int32 × Int32 × Int32 × Int32 × Int32 × (Nat → Int32) × (Nat → Int32) × (Nat → Int32) × (Nat → Int32) × (Nat → Int32) × (Nat → Int32)) (y : Int32 × Int32 × Int32 × Int32), fX5_drawnBacks (s 1) (s 3) (s 29) (s 30) (s 31) (s 32) (s 33) (s 37) (s 38) (s 39) (s 40) (s 41) (s 42) (s 43) (s 44) (a 27) (a 25) (a 22) (a 26) (a 24) (a 23) (a 34) (a 32) (a 29) (a 33) (a 31) (a 30) a1 a2 = some x ∧ fX7_drawnBacks_n (ms 0) (ms 1) (ms 2) a1 a2 = some y ∧ x.1 = y.1 ∧ zGN (zu (zu (zu (zu (zu (zu (zu (zu (zu s 3 x.2.1) 37 x.2.2.1) 38 x.2.2.2.1) 39 x.2.2.2.2.1) 40 x.2.2.2.2.2.1) 41 x.2.2.2.2.2.2.1) 42 x.2.2.2.2.2.2.2.1) 43 x.2.2.2.2.2.2.2.2.1) 44 x.2.2.2.2.2.2.2.2.2.1) (zu (zu (zu (zu (zu (zu a 34 x.2.2.2.2.2.2.2.2.2.2.1) 32 x.2.2.2.2.2.2.2.2.2.2.2.1) 29 x.2.2.2.2.2.2.2.2.2.2.2.2.1) 33 x.2.2.2.2.2.2.2.2.2.2.2.2.2.1) 31 x.2.2.2.2.2.2.2.2.2.2.2.2.2.2.1) 30 x.2.2.2.2.2.2.2.2.2.2.2.2.2.2.2) g (zu (zu (zu ms 0 y.2.1) 1 y.2.2.1) 2 y.2.2.2) ma rs := by
  obtain ⟨h1, hg, ⟨t, h0⟩, h2⟩ := H
  have e1 := nX_drawnBacks s a a1 a2
  rw [← h1] at e1
  exact ⟨_, _, e1, nM_drawnBacks ms ma a1 a2, rfl, h1, hg, ⟨t, zB0_q (t' := 1) h0 (by decide) rfl rfl rfl rfl rfl rfl rfl rfl rfl⟩, h2⟩
set_option maxHeartbeats 1000000 in
theorem rn_read {s : Nat → Int32} {a : Nat → Nat → Int32} {g : Nat → Option Nat} {ms : Nat → Int32} {ma : Nat → Nat → Int32} {rs : Nat → Nat → Nat} (H : zGN s a g ms ma rs) (a1 : Int32) (a2 : Int32) : ∃ (x : Int32 × Int32 × Int32 × Int32 × Int32 × Int32 × Int32 × (Nat → Int32) × (Nat → Int32) × (Nat → Int32) × (Nat → Int32) × (Nat → Int32) × (Nat → Int32) × (Nat → Int32) × Int32 × Int32 × Int32 × Int32 × (Nat → Int32) × (Nat → Int32) × (Nat → Int32) × (Nat → Int32) × (Nat → Int32) × (Nat → Int32) × (Nat → Int32) × (Nat → Int32)) (y : Int32 × Int32 × Int32 × Int32), fX5_read (s 1) (s 3) (s 29) (s 30) (s 31) (s 32) (s 33) (s 34) (s 35) (s 36) (s 45) (a 27) (a 25) (a 22) (a 26) (a 24) (a 23) (a 43) (s 46) (s 47) (s 48) (s 49) (s 50) (s 51) (s 52) (s 53) (a 44) (a 45) (a 42) (a 40) (a 37) (a 41) (a 39) (a 38) a1 a2 = some x ∧ fX7_read_n (ms 0) (ms 1) (ms 2) a1 a2 = some y ∧ x.1 = y.1 ∧ zGN (zu (zu (zu (zu (zu (zu (zu (zu (zu (zu s 3 x.2.1) 33 x.2.2.1) 34 x.2.2.2.1) 35 x.2.2.2.2.1) 36 x.2.2.2.2.2.1) 45 x.2.2.2.2.2.2.1) 50 x.2.2.2.2.2.2.2.2.2.2.2.2.2.2.1) 51 x.2.2.2.2.2.2.2.2.2.2.2.2.2.2.2.1) 52 x.2.2.2.2.2.2.2.2.2.2.2.2.2.2.2.2.1) 53 x.2.2.2.2.2.2.2.2.2.2.2.2.2.2.2.2.2.1) (zu (zu (zu (zu (zu (zu (zu (zu (zu (zu (zu (zu (zu (zu (zu a 27 x.2.2.2.2.2.2.2.1) 25 x.2.2.2.2.2.2.2.2.1) 22 x.2.2.2.2.2.2.2.2.2.1) 26 x.2.2.2.2.2.2.2.2.2.2.1) 24 x.2.2.2.2.2.2.2.2.2.2.2.1) 23 x.2.2.2.2.2.2.2.2.2.2.2.2.1) 43 x.2.2.2.2.2.2.2.2.2.2.2.2.2.1) 44 x.2.2.2.2.2.2.2.2.2.2.2.2.2.2.2.2.2.2.1) 45 x.2.2.2.2.2.2.2.2.2.2.2.2.2.2.2.2.2.2.2.1) 42 x.2.2.2.2.2.2.2.2.2.2.2.2.2.2.2.2.2.2.2.2.1) 40 x.2.2.2.2.2.2.2.2.2.2.2.2.2.2.2.2.2.2.2.2.2.1) 37 x.2.2.2.2.2.2.2.2.2.2.2.2.2.2.2.2.2.2.2.2.2.2.1) 41 x.2.2.2.2.2.2.2.2.2.2.2.2.2.2.2.2.2.2.2.2.2.2.2.1) 39 x.2.2.2.2.2.2.2.2.2.2.2.2.2.2.2.2.2.2.2.2.2.2.2.2.1) 38 x.2.2.2.2.2.2.2.2.2.2.2.2.2.2.2.2.2.2.2.2.2.2.2.2.2) g (zu (zu (zu ms 0 y.2.1) 1 y.2.2.1) 2 y.2.2.2) ma rs := by
  obtain ⟨h1, hg, ⟨t, h0⟩, h2⟩ := H
  have e1 := nX_read s a a1 a2
  rw [← h1] at e1
  exact ⟨_, _, e1, nM_read ms ma a1 a2, rfl, h1, hg, ⟨t, zB0_q (t' := 1) h0 (by decide) rfl rfl rfl rfl rfl rfl rfl rfl rfl⟩, h2⟩
set_option maxHeartbeats 1000000 in
theorem rn_write {s : Nat → Int32} {a : Nat → Nat → Int32} {g : Nat → Option Nat} {ms : Nat → Int32} {ma : Nat → Nat → Int32} {rs : Nat → Nat → Nat} (H : zGN s a g ms ma rs) (a1 : Int32) (a2 : Int32) (a3 : Int32) : ∃ (x : Int32 × Int32 × Int32 × Int32 × Int32 × Int32 × Int32 × (Nat → Int32) × (Nat → Int32) × (Nat → Int32) × (Nat → Int32) × (Nat → Int32) × (Nat → Int32) × (Nat → Int32) × Int32 × Int32 × Int32 × Int32 × (Nat → Int32) × (Nat → Int32) × (Nat → Int32) × (Nat → Int32) × (Nat → Int32) × (Nat → Int32) × (Nat → Int32) × (Nat → Int32)) (y : Int32 × Int32 × Int32 × Int32), fX5_write (s 1) (s 3) (s 29) (s 30) (s 31) (s 32) (s 33) (s 34) (s 35) (s 36) (s 45) (a 27) (a 25) (a 22) (a 26) (a 24) (a 23) (a 43) (s 46) (s 47) (s 48) (s 49) (s 50) (s 51) (s 52) (s 53) (a 44) (a 45) (a 42) (a 40) (a 37) (a 41) (a 39) (a 38) a1 a2 a3 = some x ∧ fX7_write_n (ms 0) (ms 1) (ms 2) a1 a2 a3 = some y ∧ x.1 = y.1 ∧ zGN (zu (zu (zu (zu (zu (zu (zu (zu (zu (zu s 3 x.2.1) 33 x.2.2.1) 34 x.2.2.2.1) 35 x.2.2.2.2.1) 36 x.2.2.2.2.2.1) 45 x.2.2.2.2.2.2.1) 50 x.2.2.2.2.2.2.2.2.2.2.2.2.2.2.1) 51 x.2.2.2.2.2.2.2.2.2.2.2.2.2.2.2.1) 52 x.2.2.2.2.2.2.2.2.2.2.2.2.2.2.2.2.1) 53 x.2.2.2.2.2.2.2.2.2.2.2.2.2.2.2.2.2.1) (zu (zu (zu (zu (zu (zu (zu (zu (zu (zu (zu (zu (zu (zu (zu a 27 x.2.2.2.2.2.2.2.1) 25 x.2.2.2.2.2.2.2.2.1) 22 x.2.2.2.2.2.2.2.2.2.1) 26 x.2.2.2.2.2.2.2.2.2.2.1) 24 x.2.2.2.2.2.2.2.2.2.2.2.1) 23 x.2.2.2.2.2.2.2.2.2.2.2.2.1) 43 x.2.2.2.2.2.2.2.2.2.2.2.2.2.1) 44 x.2.2.2.2.2.2.2.2.2.2.2.2.2.2.2.2.2.2.1) 45 x.2.2.2.2.2.2.2.2.2.2.2.2.2.2.2.2.2.2.2.1) 42 x.2.2.2.2.2.2.2.2.2.2.2.2.2.2.2.2.2.2.2.2.1) 40 x.2.2.2.2.2.2.2.2.2.2.2.2.2.2.2.2.2.2.2.2.2.1) 37 x.2.2.2.2.2.2.2.2.2.2.2.2.2.2.2.2.2.2.2.2.2.2.1) 41 x.2.2.2.2.2.2.2.2.2.2.2.2.2.2.2.2.2.2.2.2.2.2.2.1) 39 x.2.2.2.2.2.2.2.2.2.2.2.2.2.2.2.2.2.2.2.2.2.2.2.2.1) 38 x.2.2.2.2.2.2.2.2.2.2.2.2.2.2.2.2.2.2.2.2.2.2.2.2.2) g (zu (zu (zu ms 0 y.2.1) 1 y.2.2.1) 2 y.2.2.2) ma rs := by
  obtain ⟨h1, hg, ⟨t, h0⟩, h2⟩ := H
  have e1 := nX_write s a a1 a2 a3
  rw [← h1] at e1
  exact ⟨_, _, e1, nM_write ms ma a1 a2 a3, rfl, h1, hg, ⟨t, zB0_q (t' := 1) h0 (by decide) rfl rfl rfl rfl rfl rfl rfl rfl rfl⟩, h2⟩
set_option maxHeartbeats 1000000 in
theorem rn_drop {s : Nat → Int32} {a : Nat → Nat → Int32} {g : Nat → Option Nat} {ms : Nat → Int32} {ma : Nat → Nat → Int32} {rs : Nat → Nat → Nat} (H : zGN s a g ms ma rs) (a1 : Int32) : ∃ (x : Int32 × Int32 × Int32 × Int32 × Int32 × Int32 × Int32 × (Nat → Int32) × (Nat → Int32) × (Nat → Int32) × (Nat → Int32) × (Nat → Int32) × (Nat → Int32) × (Nat → Int32) × Int32 × Int32 × Int32 × Int32 × (Nat → Int32) × (Nat → Int32) × (Nat → Int32) × (Nat → Int32) × (Nat → Int32) × (Nat → Int32) × (Nat → Int32) × (Nat → Int32)) (y : Int32 × Int32 × Int32 × Int32), fX5_drop (s 1) (s 3) (s 29) (s 30) (s 31) (s 32) (s 33) (s 34) (s 35) (s 36) (s 45) (a 27) (a 25) (a 22) (a 26) (a 24) (a 23) (a 43) (s 46) (s 47) (s 48) (s 49) (s 50) (s 51) (s 52) (s 53) (a 44) (a 45) (a 42) (a 40) (a 37) (a 41) (a 39) (a 38) a1 = some x ∧ fX7_drop_n (ms 0) (ms 1) (ms 2) (ma 2) a1 = some y ∧ x.1 = y.1 ∧ zGN (zu (zu (zu (zu (zu (zu (zu (zu (zu (zu s 3 x.2.1) 33 x.2.2.1) 34 x.2.2.2.1) 35 x.2.2.2.2.1) 36 x.2.2.2.2.2.1) 45 x.2.2.2.2.2.2.1) 50 x.2.2.2.2.2.2.2.2.2.2.2.2.2.2.1) 51 x.2.2.2.2.2.2.2.2.2.2.2.2.2.2.2.1) 52 x.2.2.2.2.2.2.2.2.2.2.2.2.2.2.2.2.1) 53 x.2.2.2.2.2.2.2.2.2.2.2.2.2.2.2.2.2.1) (zu (zu (zu (zu (zu (zu (zu (zu (zu (zu (zu (zu (zu (zu (zu a 27 x.2.2.2.2.2.2.2.1) 25 x.2.2.2.2.2.2.2.2.1) 22 x.2.2.2.2.2.2.2.2.2.1) 26 x.2.2.2.2.2.2.2.2.2.2.1) 24 x.2.2.2.2.2.2.2.2.2.2.2.1) 23 x.2.2.2.2.2.2.2.2.2.2.2.2.1) 43 x.2.2.2.2.2.2.2.2.2.2.2.2.2.1) 44 x.2.2.2.2.2.2.2.2.2.2.2.2.2.2.2.2.2.2.1) 45 x.2.2.2.2.2.2.2.2.2.2.2.2.2.2.2.2.2.2.2.1) 42 x.2.2.2.2.2.2.2.2.2.2.2.2.2.2.2.2.2.2.2.2.1) 40 x.2.2.2.2.2.2.2.2.2.2.2.2.2.2.2.2.2.2.2.2.2.1) 37 x.2.2.2.2.2.2.2.2.2.2.2.2.2.2.2.2.2.2.2.2.2.2.1) 41 x.2.2.2.2.2.2.2.2.2.2.2.2.2.2.2.2.2.2.2.2.2.2.2.1) 39 x.2.2.2.2.2.2.2.2.2.2.2.2.2.2.2.2.2.2.2.2.2.2.2.2.1) 38 x.2.2.2.2.2.2.2.2.2.2.2.2.2.2.2.2.2.2.2.2.2.2.2.2.2) g (zu (zu (zu ms 0 y.2.1) 1 y.2.2.1) 2 y.2.2.2) ma rs := by
  obtain ⟨h1, hg, ⟨t, h0⟩, h2⟩ := H
  have e1 := nX_drop s a a1
  rw [← h1] at e1
  exact ⟨_, _, e1, nM_drop ms ma a1, rfl, h1, hg, ⟨t, zB0_q (t' := 1) h0 (by decide) rfl rfl rfl rfl rfl rfl rfl rfl rfl⟩, h2⟩
set_option maxHeartbeats 1000000 in
theorem rn_clean {s : Nat → Int32} {a : Nat → Nat → Int32} {g : Nat → Option Nat} {ms : Nat → Int32} {ma : Nat → Nat → Int32} {rs : Nat → Nat → Nat} (H : zGN s a g ms ma rs) : ∃ (x : Int32 × Int32 × Int32 × Int32 × Int32 × Int32 × Int32 × (Nat → Int32) × (Nat → Int32) × (Nat → Int32) × (Nat → Int32) × (Nat → Int32) × (Nat → Int32) × (Nat → Int32) × Int32 × Int32 × Int32 × Int32 × (Nat → Int32) × (Nat → Int32) × (Nat → Int32) × (Nat → Int32) × (Nat → Int32) × (Nat → Int32) × (Nat → Int32) × (Nat → Int32)) (y : Int32 × Int32 × Int32 × Int32), fX5_clean (s 1) (s 3) (s 29) (s 30) (s 31) (s 32) (s 33) (s 34) (s 35) (s 36) (s 45) (a 27) (a 25) (a 22) (a 26) (a 24) (a 23) (a 43) (s 46) (s 47) (s 48) (s 49) (s 50) (s 51) (s 52) (s 53) (a 44) (a 45) (a 42) (a 40) (a 37) (a 41) (a 39) (a 38) = some x ∧ fX7_clean_n (ms 0) (ms 1) (ms 2) = some y ∧ x.1 = y.1 ∧ zGN (zu (zu (zu (zu (zu (zu (zu (zu (zu (zu s 3 x.2.1) 33 x.2.2.1) 34 x.2.2.2.1) 35 x.2.2.2.2.1) 36 x.2.2.2.2.2.1) 45 x.2.2.2.2.2.2.1) 50 x.2.2.2.2.2.2.2.2.2.2.2.2.2.2.1) 51 x.2.2.2.2.2.2.2.2.2.2.2.2.2.2.2.1) 52 x.2.2.2.2.2.2.2.2.2.2.2.2.2.2.2.2.1) 53 x.2.2.2.2.2.2.2.2.2.2.2.2.2.2.2.2.2.1) (zu (zu (zu (zu (zu (zu (zu (zu (zu (zu (zu (zu (zu (zu (zu a 27 x.2.2.2.2.2.2.2.1) 25 x.2.2.2.2.2.2.2.2.1) 22 x.2.2.2.2.2.2.2.2.2.1) 26 x.2.2.2.2.2.2.2.2.2.2.1) 24 x.2.2.2.2.2.2.2.2.2.2.2.1) 23 x.2.2.2.2.2.2.2.2.2.2.2.2.1) 43 x.2.2.2.2.2.2.2.2.2.2.2.2.2.1) 44 x.2.2.2.2.2.2.2.2.2.2.2.2.2.2.2.2.2.2.1) 45 x.2.2.2.2.2.2.2.2.2.2.2.2.2.2.2.2.2.2.2.1) 42 x.2.2.2.2.2.2.2.2.2.2.2.2.2.2.2.2.2.2.2.2.1) 40 x.2.2.2.2.2.2.2.2.2.2.2.2.2.2.2.2.2.2.2.2.2.1) 37 x.2.2.2.2.2.2.2.2.2.2.2.2.2.2.2.2.2.2.2.2.2.2.1) 41 x.2.2.2.2.2.2.2.2.2.2.2.2.2.2.2.2.2.2.2.2.2.2.2.1) 39 x.2.2.2.2.2.2.2.2.2.2.2.2.2.2.2.2.2.2.2.2.2.2.2.2.1) 38 x.2.2.2.2.2.2.2.2.2.2.2.2.2.2.2.2.2.2.2.2.2.2.2.2.2) g (zu (zu (zu ms 0 y.2.1) 1 y.2.2.1) 2 y.2.2.2) ma rs := by
  obtain ⟨h1, hg, ⟨t, h0⟩, h2⟩ := H
  have e1 := nX_clean s a 
  rw [← h1] at e1
  exact ⟨_, _, e1, nM_clean ms ma , rfl, h1, hg, ⟨t, zB0_q (t' := 1) h0 (by decide) rfl rfl rfl rfl rfl rfl rfl rfl rfl⟩, h2⟩
