/-! ===== no cache yet: both refuse ===== -/
theorem n_if {α : Type} {A B : Option α} : (if (0 : Int32) = 0 then A else B) = A := if_pos rfl
theorem n_li0 {a1 : Int32} : fX5_isLine 0 a1 = some 0 := by
  unfold fX5_isLine
  exact if_pos rfl
theorem n_pl0 {a1 a2 : Int32} : fX5_isPlace 0 a1 a2 = some 0 := by
  unfold fX5_isPlace
  rw [n_li0, Option.bind_some]
  exact if_pos rfl
theorem n_se0 {p a1 : Int32} : fX5_isSet 0 p a1 = some 0 := by
  unfold fX5_isSet
  exact if_pos rfl
theorem n_li {α : Type} {a1 : Int32} {A : Option α} {B : Int32 → Option α} : ((fX5_isLine 0 a1).bind fun x => if x = 0 then A else B x) = A := by
  rw [n_li0, Option.bind_some]
  exact if_pos rfl
theorem n_pl {α : Type} {a1 a2 : Int32} {A : Option α} {B : Int32 → Option α} : ((fX5_isPlace 0 a1 a2).bind fun x => if x = 0 then A else B x) = A := by
  rw [n_pl0, Option.bind_some]
  exact if_pos rfl
theorem n_se {α : Type} {p a1 : Int32} {A : Option α} {B : Int32 → Option α} : ((fX5_isSet 0 p a1).bind fun x => if x = 0 then A else B x) = A := by
  rw [n_se0, Option.bind_some]
  exact if_pos rfl
theorem nX_word (s : Nat → Int32) (a : Nat → Nat → Int32) (a1 : Int32) (a2 : Int32) : fX5_word 0 (s 3) (a 23) a1 a2 = some (-1, 1) := by
  unfold fX5_word
  first | with_reducible refine Eq.trans n_if ?_ | with_reducible refine Eq.trans n_pl ?_ | with_reducible refine Eq.trans n_li ?_ | with_reducible refine Eq.trans n_se ?_
  rfl
theorem nM_word (s : Nat → Int32) (a : Nat → Nat → Int32) (a1 : Int32) (a2 : Int32) : fX7_word_n (s 0) (s 1) (s 2) a1 a2 = some (-1, 0, 1, -1) := rfl
theorem nX_memory (s : Nat → Int32) (a : Nat → Nat → Int32) (a1 : Int32) (a2 : Int32) : fX5_memory 0 (s 3) (a 22) a1 a2 = some (-1, 1) := by
  unfold fX5_memory
  first | with_reducible refine Eq.trans n_if ?_ | with_reducible refine Eq.trans n_pl ?_ | with_reducible refine Eq.trans n_li ?_ | with_reducible refine Eq.trans n_se ?_
  rfl
theorem nM_memory (s : Nat → Int32) (a : Nat → Nat → Int32) (a1 : Int32) (a2 : Int32) : fX7_memory_n (s 0) (s 1) (s 2) (a 2) a1 a2 = some (-1, 0, 1, -1) := rfl
theorem nX_form (s : Nat → Int32) (a : Nat → Nat → Int32) (a1 : Int32) : fX5_form 0 (s 3) (a 23) a1 = some (-1, 1) := by
  unfold fX5_form
  first | with_reducible refine Eq.trans n_if ?_ | with_reducible refine Eq.trans n_pl ?_ | with_reducible refine Eq.trans n_li ?_ | with_reducible refine Eq.trans n_se ?_
  rfl
theorem nM_form (s : Nat → Int32) (a : Nat → Nat → Int32) (a1 : Int32) : fX7_form_n (s 0) (s 1) (s 2) a1 = some (-1, 0, 1, -1) := rfl
theorem nX_bytes (s : Nat → Int32) (a : Nat → Nat → Int32) (a1 : Int32) (a2 : Int32) : fX5_bytes 0 (s 3) (a 23) a1 a2 = some (-1, 1) := by
  unfold fX5_bytes
  first | with_reducible refine Eq.trans n_if ?_ | with_reducible refine Eq.trans n_pl ?_ | with_reducible refine Eq.trans n_li ?_ | with_reducible refine Eq.trans n_se ?_
  rfl
theorem nM_bytes (s : Nat → Int32) (a : Nat → Nat → Int32) (a1 : Int32) (a2 : Int32) : fX7_bytes_n (s 0) (s 1) (s 2) a1 a2 = some (-1, 0, 1, -1) := rfl
theorem nX_forms (s : Nat → Int32) (a : Nat → Nat → Int32) (a1 : Int32) : fX5_forms 0 (s 3) (a 23) a1 = some (-1, 1) := by
  unfold fX5_forms
  first | with_reducible refine Eq.trans n_if ?_ | with_reducible refine Eq.trans n_pl ?_ | with_reducible refine Eq.trans n_li ?_ | with_reducible refine Eq.trans n_se ?_
  rfl
theorem nM_forms (s : Nat → Int32) (a : Nat → Nat → Int32) (a1 : Int32) : fX7_forms_n (s 0) (s 1) (s 2) a1 = some (-1, 0, 1, -1) := rfl
theorem nX_segments (s : Nat → Int32) (a : Nat → Nat → Int32) (a1 : Int32) : fX5_segments 0 (s 3) (a 23) a1 = some (-1, 1) := by
  unfold fX5_segments
  first | with_reducible refine Eq.trans n_if ?_ | with_reducible refine Eq.trans n_pl ?_ | with_reducible refine Eq.trans n_li ?_ | with_reducible refine Eq.trans n_se ?_
  rfl
theorem nM_segments (s : Nat → Int32) (a : Nat → Nat → Int32) (a1 : Int32) : fX7_segments_n (s 0) (s 1) (s 2) a1 = some (-1, 0, 1, -1) := rfl
theorem nX_base (s : Nat → Int32) (a : Nat → Nat → Int32) (a1 : Int32) (a2 : Int32) : fX5_base 0 (s 3) (a 23) a1 a2 = some (-1, 1) := by
  unfold fX5_base
  first | with_reducible refine Eq.trans n_if ?_ | with_reducible refine Eq.trans n_pl ?_ | with_reducible refine Eq.trans n_li ?_ | with_reducible refine Eq.trans n_se ?_
  rfl
theorem nM_base (s : Nat → Int32) (a : Nat → Nat → Int32) (a1 : Int32) (a2 : Int32) : fX7_base_n (s 0) (s 1) (s 2) a1 a2 = some (-1, 0, 1, -1) := rfl
theorem nX_mask (s : Nat → Int32) (a : Nat → Nat → Int32) (a1 : Int32) (a2 : Int32) : fX5_mask 0 (s 3) (a 23) a1 a2 = some (-1, 1) := by
  unfold fX5_mask
  first | with_reducible refine Eq.trans n_if ?_ | with_reducible refine Eq.trans n_pl ?_ | with_reducible refine Eq.trans n_li ?_ | with_reducible refine Eq.trans n_se ?_
  rfl
theorem nM_mask (s : Nat → Int32) (a : Nat → Nat → Int32) (a1 : Int32) (a2 : Int32) : fX7_mask_n (s 0) (s 1) (s 2) a1 a2 = some (-1, 0, 1, -1) := rfl
theorem nX_difference (s : Nat → Int32) (a : Nat → Nat → Int32) (a1 : Int32) (a2 : Int32) (a3 : Int32) : fX5_difference 0 (s 3) (a 23) a1 a2 a3 = some (-1, 1) := by
  unfold fX5_difference
  first | with_reducible refine Eq.trans n_if ?_ | with_reducible refine Eq.trans n_pl ?_ | with_reducible refine Eq.trans n_li ?_ | with_reducible refine Eq.trans n_se ?_
  rfl
theorem nM_difference (s : Nat → Int32) (a : Nat → Nat → Int32) (a1 : Int32) (a2 : Int32) (a3 : Int32) : fX7_difference_n (s 0) (s 1) (s 2) a1 a2 a3 = some (-1, 0, 1, -1) := rfl
theorem nX_linesOf (s : Nat → Int32) (a : Nat → Nat → Int32) (a1 : Int32) : fX5_linesOf 0 (s 3) (a 23) a1 = some (-1, 1) := by
  unfold fX5_linesOf
  first | with_reducible refine Eq.trans n_if ?_ | with_reducible refine Eq.trans n_pl ?_ | with_reducible refine Eq.trans n_li ?_ | with_reducible refine Eq.trans n_se ?_
  rfl
theorem nM_linesOf (s : Nat → Int32) (a : Nat → Nat → Int32) (a1 : Int32) : fX7_linesOf_n (s 0) (s 1) (s 2) a1 = some (-1, 0, 1, -1) := rfl
theorem nX_set (s : Nat → Int32) (a : Nat → Nat → Int32) (a1 : Int32) (a2 : Int32) : fX5_set 0 (s 3) (s 29) (s 30) (s 4) (a 27) (a 26) (a 24) a1 a2 = some (-1, 1) := by
  unfold fX5_set
  first | with_reducible refine Eq.trans n_if ?_ | with_reducible refine Eq.trans n_pl ?_ | with_reducible refine Eq.trans n_li ?_ | with_reducible refine Eq.trans n_se ?_
  rfl
theorem nM_set (s : Nat → Int32) (a : Nat → Nat → Int32) (a1 : Int32) (a2 : Int32) : fX7_set_n (s 0) (s 1) (s 2) a1 a2 = some (-1, 0, 1, -1) := rfl
theorem nX_tag (s : Nat → Int32) (a : Nat → Nat → Int32) (a1 : Int32) (a2 : Int32) : fX5_tag 0 (s 3) (s 29) (s 4) (a 25) (a 24) a1 a2 = some (-1, 1) := by
  unfold fX5_tag
  first | with_reducible refine Eq.trans n_if ?_ | with_reducible refine Eq.trans n_pl ?_ | with_reducible refine Eq.trans n_li ?_ | with_reducible refine Eq.trans n_se ?_
  rfl
theorem nM_tag (s : Nat → Int32) (a : Nat → Nat → Int32) (a1 : Int32) (a2 : Int32) : fX7_tag_n (s 0) (s 1) (s 2) a1 a2 = some (-1, 0, 1, -1) := rfl
theorem nX_cached (s : Nat → Int32) (a : Nat → Nat → Int32) (a1 : Int32) (a2 : Int32) : fX5_cached 0 (s 3) (s 29) (a 27) (a 25) (a 24) a1 a2 = some (-1, 1) := by
  unfold fX5_cached
  first | with_reducible refine Eq.trans n_if ?_ | with_reducible refine Eq.trans n_pl ?_ | with_reducible refine Eq.trans n_li ?_ | with_reducible refine Eq.trans n_se ?_
  rfl
theorem nM_cached (s : Nat → Int32) (a : Nat → Nat → Int32) (a1 : Int32) (a2 : Int32) : fX7_cached_n (s 0) (s 1) (s 2) (a 2) a1 a2 = some (-1, 0, 1, -1) := rfl
theorem nX_isCached (s : Nat → Int32) (a : Nat → Nat → Int32) (a1 : Int32) : fX5_isCached 0 (s 3) (a 24) a1 = some (-1, 1) := by
  unfold fX5_isCached
  first | with_reducible refine Eq.trans n_if ?_ | with_reducible refine Eq.trans n_pl ?_ | with_reducible refine Eq.trans n_li ?_ | with_reducible refine Eq.trans n_se ?_
  rfl
theorem nM_isCached (s : Nat → Int32) (a : Nat → Nat → Int32) (a1 : Int32) : fX7_isCached_n (s 0) (s 1) (s 2) (a 2) a1 = some (-1, 0, 1, -1) := rfl
theorem nX_victim (s : Nat → Int32) (a : Nat → Nat → Int32) (a1 : Int32) : fX5_victim 0 (s 3) (s 29) (s 31) (s 4) (a 25) (a 26) (a 24) a1 = some (-1, 1) := by
  unfold fX5_victim
  first | with_reducible refine Eq.trans n_if ?_ | with_reducible refine Eq.trans n_pl ?_ | with_reducible refine Eq.trans n_li ?_ | with_reducible refine Eq.trans n_se ?_
  rfl
theorem nM_victim (s : Nat → Int32) (a : Nat → Nat → Int32) (a1 : Int32) : fX7_victim_n (s 0) (s 1) (s 2) a1 = some (-1, 0, 1, -1) := rfl
theorem nX_makesRoom (s : Nat → Int32) (a : Nat → Nat → Int32) (a1 : Int32) : fX5_makesRoom 0 (s 3) (s 29) (s 30) (s 31) (s 32) (s 33) (s 37) (s 38) (s 39) (s 40) (s 41) (s 42) (s 43) (s 44) (a 27) (a 25) (a 22) (a 26) (a 24) (a 23) (a 34) (a 32) (a 29) (a 33) (a 31) (a 30) a1 = some (-1, 1, s 37, s 38, s 39, s 40, s 41, s 42, s 43, s 44, a 34, a 32, a 29, a 33, a 31, a 30) := by
  unfold fX5_makesRoom
  first | with_reducible refine Eq.trans n_if ?_ | with_reducible refine Eq.trans n_pl ?_ | with_reducible refine Eq.trans n_li ?_ | with_reducible refine Eq.trans n_se ?_
  rfl
theorem nM_makesRoom (s : Nat → Int32) (a : Nat → Nat → Int32) (a1 : Int32) : fX7_makesRoom_n (s 0) (s 1) (s 2) a1 = some (-1, 0, 1, -1) := rfl
theorem nX_growsOver (s : Nat → Int32) (a : Nat → Nat → Int32) (a1 : Int32) (a2 : Int32) (a3 : Int32) : fX5_growsOver 0 (s 3) (s 29) (s 30) (s 31) (s 32) (s 33) (s 37) (s 38) (s 39) (s 40) (s 41) (s 42) (s 43) (s 44) (a 27) (a 25) (a 22) (a 26) (a 24) (a 23) (a 34) (a 32) (a 29) (a 33) (a 31) (a 30) a1 a2 a3 = some (-1, 1, s 37, s 38, s 39, s 40, s 41, s 42, s 43, s 44, a 34, a 32, a 29, a 33, a 31, a 30) := by
  unfold fX5_growsOver
  first | with_reducible refine Eq.trans n_if ?_ | with_reducible refine Eq.trans n_pl ?_ | with_reducible refine Eq.trans n_li ?_ | with_reducible refine Eq.trans n_se ?_
  rfl
theorem nM_growsOver (s : Nat → Int32) (a : Nat → Nat → Int32) (a1 : Int32) (a2 : Int32) (a3 : Int32) : fX7_growsOver_n (s 0) (s 1) (s 2) a1 a2 a3 = some (-1, 0, 1, -1) := rfl
theorem nX_ratio (s : Nat → Int32) (a : Nat → Nat → Int32) (a1 : Int32) : fX5_ratio 0 (s 3) (a 26) (a 24) a1 = some (-1, 1) := by
  unfold fX5_ratio
  first | with_reducible refine Eq.trans n_if ?_ | with_reducible refine Eq.trans n_pl ?_ | with_reducible refine Eq.trans n_li ?_ | with_reducible refine Eq.trans n_se ?_
  rfl
theorem nM_ratio (s : Nat → Int32) (a : Nat → Nat → Int32) (a1 : Int32) : fX7_ratio_n (s 0) (s 1) (s 2) a1 = some (-1, 0, 1, -1) := rfl
theorem nX_lines (s : Nat → Int32) (a : Nat → Nat → Int32) : fX5_lines 0 (s 3) (a 24) = some (-1, 1) := by
  unfold fX5_lines
  first | with_reducible refine Eq.trans n_if ?_ | with_reducible refine Eq.trans n_pl ?_ | with_reducible refine Eq.trans n_li ?_ | with_reducible refine Eq.trans n_se ?_
  rfl
theorem nM_lines (s : Nat → Int32) (a : Nat → Nat → Int32) : fX7_lines_n (s 0) (s 1) (s 2) = some (-1, 0, 1, -1) := rfl
theorem nX_runHits (s : Nat → Int32) (a : Nat → Nat → Int32) : fX5_runHits 0 (s 3) (s 4) (s 5) (s 6) (s 8) (s 9) (s 37) (s 38) (s 39) (s 40) (s 41) (s 42) (s 43) (s 44) (a 4) (a 5) (a 6) (a 7) (a 8) (a 34) (a 32) (a 29) (a 33) (a 31) (a 30) = some (-1, 1, s 37, s 38, s 39, s 40, s 41, s 42, s 43, s 44, a 34, a 32, a 29, a 33, a 31, a 30) := by
  unfold fX5_runHits
  first | with_reducible refine Eq.trans n_if ?_ | with_reducible refine Eq.trans n_pl ?_ | with_reducible refine Eq.trans n_li ?_ | with_reducible refine Eq.trans n_se ?_
  rfl
theorem nM_runHits (s : Nat → Int32) (a : Nat → Nat → Int32) : fX7_runHits_n (s 0) (s 1) (s 2) = some (-1, 0, 1, -1) := rfl
theorem nX_runVictims (s : Nat → Int32) (a : Nat → Nat → Int32) : fX5_runVictims 0 (s 3) (s 4) (s 5) (s 6) (s 8) (s 9) (s 37) (s 38) (s 39) (s 40) (s 41) (s 42) (s 43) (s 44) (a 4) (a 5) (a 6) (a 7) (a 8) (a 34) (a 32) (a 29) (a 33) (a 31) (a 30) = some (-1, 1, s 37, s 38, s 39, s 40, s 41, s 42, s 43, s 44, a 34, a 32, a 29, a 33, a 31, a 30) := by
  unfold fX5_runVictims
  first | with_reducible refine Eq.trans n_if ?_ | with_reducible refine Eq.trans n_pl ?_ | with_reducible refine Eq.trans n_li ?_ | with_reducible refine Eq.trans n_se ?_
  rfl
theorem nM_runVictims (s : Nat → Int32) (a : Nat → Nat → Int32) : fX7_runVictims_n (s 0) (s 1) (s 2) = some (-1, 0, 1, -1) := rfl
theorem nX_runBacks (s : Nat → Int32) (a : Nat → Nat → Int32) : fX5_runBacks 0 (s 3) (s 4) (s 5) (s 6) (s 8) (s 9) (s 37) (s 38) (s 39) (s 40) (s 41) (s 42) (s 43) (s 44) (a 4) (a 5) (a 6) (a 7) (a 8) (a 34) (a 32) (a 29) (a 33) (a 31) (a 30) = some (-1, 1, s 37, s 38, s 39, s 40, s 41, s 42, s 43, s 44, a 34, a 32, a 29, a 33, a 31, a 30) := by
  unfold fX5_runBacks
  first | with_reducible refine Eq.trans n_if ?_ | with_reducible refine Eq.trans n_pl ?_ | with_reducible refine Eq.trans n_li ?_ | with_reducible refine Eq.trans n_se ?_
  rfl
theorem nM_runBacks (s : Nat → Int32) (a : Nat → Nat → Int32) : fX7_runBacks_n (s 0) (s 1) (s 2) = some (-1, 0, 1, -1) := rfl
theorem nX_runStep (s : Nat → Int32) (a : Nat → Nat → Int32) (a1 : Int32) : fX5_runStep 0 (s 3) (s 4) (s 5) (s 6) (s 8) (s 9) (s 37) (s 38) (s 39) (s 40) (s 41) (s 42) (s 43) (s 44) (a 4) (a 5) (a 6) (a 7) (a 8) (a 34) (a 32) (a 29) (a 33) (a 31) (a 30) a1 = some (-1, 1, s 37, s 38, s 39, s 40, s 41, s 42, s 43, s 44, a 34, a 32, a 29, a 33, a 31, a 30) := by
  unfold fX5_runStep
  first | with_reducible refine Eq.trans n_if ?_ | with_reducible refine Eq.trans n_pl ?_ | with_reducible refine Eq.trans n_li ?_ | with_reducible refine Eq.trans n_se ?_
  rfl
theorem nM_runStep (s : Nat → Int32) (a : Nat → Nat → Int32) (a1 : Int32) : fX7_runStep_n (s 0) (s 1) (s 2) a1 = some (-1, 0, 1, -1) := rfl
theorem nX_plainHits (s : Nat → Int32) (a : Nat → Nat → Int32) : fX5_plainHits 0 (s 3) (s 4) (s 5) (s 6) (s 8) (s 9) (s 37) (s 38) (s 39) (s 40) (s 41) (s 42) (s 43) (s 44) (a 4) (a 5) (a 6) (a 7) (a 8) (a 34) (a 32) (a 29) (a 33) (a 31) (a 30) = some (-1, 1, s 37, s 38, s 39, s 40, s 41, s 42, s 43, s 44, a 34, a 32, a 29, a 33, a 31, a 30) := by
  unfold fX5_plainHits
  first | with_reducible refine Eq.trans n_if ?_ | with_reducible refine Eq.trans n_pl ?_ | with_reducible refine Eq.trans n_li ?_ | with_reducible refine Eq.trans n_se ?_
  rfl
theorem nM_plainHits (s : Nat → Int32) (a : Nat → Nat → Int32) : fX7_plainHits_n (s 0) (s 1) (s 2) = some (-1, 0, 1, -1) := rfl
theorem nX_plainBacks (s : Nat → Int32) (a : Nat → Nat → Int32) : fX5_plainBacks 0 (s 3) (s 4) (s 5) (s 6) (s 8) (s 9) (s 37) (s 38) (s 39) (s 40) (s 41) (s 42) (s 43) (s 44) (a 4) (a 5) (a 6) (a 7) (a 8) (a 34) (a 32) (a 29) (a 33) (a 31) (a 30) = some (-1, 1, s 37, s 38, s 39, s 40, s 41, s 42, s 43, s 44, a 34, a 32, a 29, a 33, a 31, a 30) := by
  unfold fX5_plainBacks
  first | with_reducible refine Eq.trans n_if ?_ | with_reducible refine Eq.trans n_pl ?_ | with_reducible refine Eq.trans n_li ?_ | with_reducible refine Eq.trans n_se ?_
  rfl
theorem nM_plainBacks (s : Nat → Int32) (a : Nat → Nat → Int32) : fX7_plainBacks_n (s 0) (s 1) (s 2) = some (-1, 0, 1, -1) := rfl
theorem nX_hitsBy (s : Nat → Int32) (a : Nat → Nat → Int32) (a1 : Int32) : fX5_hitsBy 0 (s 3) (s 4) (s 6) (s 8) (s 9) (s 37) (s 38) (s 39) (s 40) (s 41) (s 42) (s 43) (s 44) (a 4) (a 5) (a 6) (a 7) (a 8) (a 34) (a 32) (a 29) (a 33) (a 31) (a 30) a1 = some (-1, 1, s 37, s 38, s 39, s 40, s 41, s 42, s 43, s 44, a 34, a 32, a 29, a 33, a 31, a 30) := by
  unfold fX5_hitsBy
  first | with_reducible refine Eq.trans n_if ?_ | with_reducible refine Eq.trans n_pl ?_ | with_reducible refine Eq.trans n_li ?_ | with_reducible refine Eq.trans n_se ?_
  rfl
theorem nM_hitsBy (s : Nat → Int32) (a : Nat → Nat → Int32) (a1 : Int32) : fX7_hitsBy_n (s 0) (s 1) (s 2) a1 = some (-1, 0, 1, -1) := rfl
theorem nX_waysFor (s : Nat → Int32) (a : Nat → Nat → Int32) (a1 : Int32) : fX5_waysFor 0 (s 3) (s 4) (s 6) (s 8) (s 9) (s 37) (s 38) (s 39) (s 40) (s 41) (s 42) (s 43) (s 44) (a 4) (a 5) (a 6) (a 7) (a 8) (a 34) (a 32) (a 29) (a 33) (a 31) (a 30) a1 = some (-1, 1, s 37, s 38, s 39, s 40, s 41, s 42, s 43, s 44, a 34, a 32, a 29, a 33, a 31, a 30) := by
  unfold fX5_waysFor
  first | with_reducible refine Eq.trans n_if ?_ | with_reducible refine Eq.trans n_pl ?_ | with_reducible refine Eq.trans n_li ?_ | with_reducible refine Eq.trans n_se ?_
  rfl
theorem nM_waysFor (s : Nat → Int32) (a : Nat → Nat → Int32) (a1 : Int32) : fX7_waysFor_n (s 0) (s 1) (s 2) a1 = some (-1, 0, 1, -1) := rfl
theorem nX_fits (s : Nat → Int32) (a : Nat → Nat → Int32) : fX5_fits 0 (s 3) (s 4) (s 5) (s 6) (s 8) (s 9) (s 10) (s 11) (s 12) (s 37) (s 38) (s 39) (s 40) (s 41) (s 42) (s 43) (s 44) (a 4) (a 10) (a 9) (a 5) (a 6) (a 7) (a 8) (a 34) (a 32) (a 29) (a 33) (a 31) (a 30) = some (-1, 1, s 11, s 12, s 37, s 38, s 39, s 40, s 41, s 42, s 43, s 44, a 34, a 32, a 29, a 33, a 31, a 30) := by
  unfold fX5_fits
  first | with_reducible refine Eq.trans n_if ?_ | with_reducible refine Eq.trans n_pl ?_ | with_reducible refine Eq.trans n_li ?_ | with_reducible refine Eq.trans n_se ?_
  rfl
theorem nM_fits (s : Nat → Int32) (a : Nat → Nat → Int32) : fX7_fits_n (s 0) (s 1) (s 2) = some (-1, 0, 1, -1) := rfl
theorem nX_fitAt (s : Nat → Int32) (a : Nat → Nat → Int32) (a1 : Int32) : fX5_fitAt 0 (s 3) (s 4) (s 5) (s 6) (s 8) (s 9) (s 10) (s 11) (s 12) (s 37) (s 38) (s 39) (s 40) (s 41) (s 42) (s 43) (s 44) (a 4) (a 10) (a 9) (a 5) (a 6) (a 7) (a 8) (a 34) (a 32) (a 29) (a 33) (a 31) (a 30) a1 = some (-1, 1, s 11, s 12, s 37, s 38, s 39, s 40, s 41, s 42, s 43, s 44, a 34, a 32, a 29, a 33, a 31, a 30) := by
  unfold fX5_fitAt
  first | with_reducible refine Eq.trans n_if ?_ | with_reducible refine Eq.trans n_pl ?_ | with_reducible refine Eq.trans n_li ?_ | with_reducible refine Eq.trans n_se ?_
  rfl
theorem nM_fitAt (s : Nat → Int32) (a : Nat → Nat → Int32) (a1 : Int32) : fX7_fitAt_n (s 0) (s 1) (s 2) a1 = some (-1, 0, 1, -1) := rfl
theorem nX_could (s : Nat → Int32) (a : Nat → Nat → Int32) : fX5_could 0 (s 3) (s 4) (s 5) (s 6) (s 8) (s 9) (s 10) (s 11) (s 12) (s 37) (s 38) (s 39) (s 40) (s 41) (s 42) (s 43) (s 44) (a 4) (a 10) (a 9) (a 5) (a 6) (a 7) (a 8) (a 34) (a 32) (a 29) (a 33) (a 31) (a 30) = some (-1, 1, s 11, s 12, s 37, s 38, s 39, s 40, s 41, s 42, s 43, s 44, a 34, a 32, a 29, a 33, a 31, a 30) := by
  unfold fX5_could
  first | with_reducible refine Eq.trans n_if ?_ | with_reducible refine Eq.trans n_pl ?_ | with_reducible refine Eq.trans n_li ?_ | with_reducible refine Eq.trans n_se ?_
  rfl
theorem nM_could (s : Nat → Int32) (a : Nat → Nat → Int32) : fX7_could_n (s 0) (s 1) (s 2) = some (-1, 0, 1, -1) := rfl
theorem nX_surely (s : Nat → Int32) (a : Nat → Nat → Int32) : fX5_surely 0 (s 3) (s 4) (s 5) (s 6) (s 8) (s 9) (s 10) (s 11) (s 12) (s 37) (s 38) (s 39) (s 40) (s 41) (s 42) (s 43) (s 44) (a 4) (a 10) (a 9) (a 5) (a 6) (a 7) (a 8) (a 34) (a 32) (a 29) (a 33) (a 31) (a 30) = some (-1, 1, s 11, s 12, s 37, s 38, s 39, s 40, s 41, s 42, s 43, s 44, a 34, a 32, a 29, a 33, a 31, a 30) := by
  unfold fX5_surely
  first | with_reducible refine Eq.trans n_if ?_ | with_reducible refine Eq.trans n_pl ?_ | with_reducible refine Eq.trans n_li ?_ | with_reducible refine Eq.trans n_se ?_
  rfl
theorem nM_surely (s : Nat → Int32) (a : Nat → Nat → Int32) : fX7_surely_n (s 0) (s 1) (s 2) = some (-1, 0, 1, -1) := rfl
theorem nX_ask (s : Nat → Int32) (a : Nat → Nat → Int32) : fX5_ask 0 (s 3) (s 4) (s 5) (s 6) (s 8) (s 9) (s 10) (s 11) (s 12) (s 37) (s 38) (s 39) (s 40) (s 41) (s 42) (s 43) (s 44) (a 4) (a 10) (a 9) (a 5) (a 6) (a 7) (a 8) (a 34) (a 32) (a 29) (a 33) (a 31) (a 30) = some (-1, 1, s 11, s 12, s 37, s 38, s 39, s 40, s 41, s 42, s 43, s 44, a 34, a 32, a 29, a 33, a 31, a 30) := by
  unfold fX5_ask
  first | with_reducible refine Eq.trans n_if ?_ | with_reducible refine Eq.trans n_pl ?_ | with_reducible refine Eq.trans n_li ?_ | with_reducible refine Eq.trans n_se ?_
  rfl
theorem nM_ask (s : Nat → Int32) (a : Nat → Nat → Int32) : fX7_ask_n (s 0) (s 1) (s 2) = some (-1, 0, 1, -1) := rfl
theorem nX_askLeaves (s : Nat → Int32) (a : Nat → Nat → Int32) : fX5_askLeaves 0 (s 3) (s 4) (s 5) (s 6) (s 8) (s 9) (s 10) (s 11) (s 12) (s 37) (s 38) (s 39) (s 40) (s 41) (s 42) (s 43) (s 44) (a 4) (a 10) (a 9) (a 5) (a 6) (a 7) (a 8) (a 34) (a 32) (a 29) (a 33) (a 31) (a 30) = some (-1, 1, s 11, s 12, s 37, s 38, s 39, s 40, s 41, s 42, s 43, s 44, a 34, a 32, a 29, a 33, a 31, a 30) := by
  unfold fX5_askLeaves
  first | with_reducible refine Eq.trans n_if ?_ | with_reducible refine Eq.trans n_pl ?_ | with_reducible refine Eq.trans n_li ?_ | with_reducible refine Eq.trans n_se ?_
  rfl
theorem nM_askLeaves (s : Nat → Int32) (a : Nat → Nat → Int32) : fX7_askLeaves_n (s 0) (s 1) (s 2) = some (-1, 0, 1, -1) := rfl
theorem nX_judge (s : Nat → Int32) (a : Nat → Nat → Int32) : fX5_judge 0 (s 3) (s 4) (s 5) (s 6) (s 8) (s 9) (s 10) (s 37) (s 38) (s 39) (s 40) (s 41) (s 42) (s 43) (s 44) (a 4) (a 10) (a 9) (a 5) (a 6) (a 7) (a 8) (a 34) (a 32) (a 29) (a 33) (a 31) (a 30) = some (-1, 1, s 37, s 38, s 39, s 40, s 41, s 42, s 43, s 44, a 34, a 32, a 29, a 33, a 31, a 30) := by
  unfold fX5_judge
  first | with_reducible refine Eq.trans n_if ?_ | with_reducible refine Eq.trans n_pl ?_ | with_reducible refine Eq.trans n_li ?_ | with_reducible refine Eq.trans n_se ?_
  rfl
theorem nM_judge (s : Nat → Int32) (a : Nat → Nat → Int32) : fX7_judge_n (s 0) (s 1) (s 2) = some (-1, 0, 1, -1) := rfl
theorem nX_drawnHits (s : Nat → Int32) (a : Nat → Nat → Int32) (a1 : Int32) (a2 : Int32) : fX5_drawnHits 0 (s 3) (s 29) (s 30) (s 31) (s 32) (s 33) (s 37) (s 38) (s 39) (s 40) (s 41) (s 42) (s 43) (s 44) (a 27) (a 25) (a 22) (a 26) (a 24) (a 23) (a 34) (a 32) (a 29) (a 33) (a 31) (a 30) a1 a2 = some (-1, 1, s 37, s 38, s 39, s 40, s 41, s 42, s 43, s 44, a 34, a 32, a 29, a 33, a 31, a 30) := by
  unfold fX5_drawnHits
  first | with_reducible refine Eq.trans n_if ?_ | with_reducible refine Eq.trans n_pl ?_ | with_reducible refine Eq.trans n_li ?_ | with_reducible refine Eq.trans n_se ?_
  rfl
theorem nM_drawnHits (s : Nat → Int32) (a : Nat → Nat → Int32) (a1 : Int32) (a2 : Int32) : fX7_drawnHits_n (s 0) (s 1) (s 2) a1 a2 = some (-1, 0, 1, -1) := rfl
theorem nX_drawnBacks (s : Nat → Int32) (a : Nat → Nat → Int32) (a1 : Int32) (a2 : Int32) : fX5_drawnBacks 0 (s 3) (s 29) (s 30) (s 31) (s 32) (s 33) (s 37) (s 38) (s 39) (s 40) (s 41) (s 42) (s 43) (s 44) (a 27) (a 25) (a 22) (a 26) (a 24) (a 23) (a 34) (a 32) (a 29) (a 33) (a 31) (a 30) a1 a2 = some (-1, 1, s 37, s 38, s 39, s 40, s 41, s 42, s 43, s 44, a 34, a 32, a 29, a 33, a 31, a 30) := by
  unfold fX5_drawnBacks
  first | with_reducible refine Eq.trans n_if ?_ | with_reducible refine Eq.trans n_pl ?_ | with_reducible refine Eq.trans n_li ?_ | with_reducible refine Eq.trans n_se ?_
  rfl
theorem nM_drawnBacks (s : Nat → Int32) (a : Nat → Nat → Int32) (a1 : Int32) (a2 : Int32) : fX7_drawnBacks_n (s 0) (s 1) (s 2) a1 a2 = some (-1, 0, 1, -1) := rfl
theorem nX_read (s : Nat → Int32) (a : Nat → Nat → Int32) (a1 : Int32) (a2 : Int32) : fX5_read 0 (s 3) (s 29) (s 30) (s 31) (s 32) (s 33) (s 34) (s 35) (s 36) (s 45) (a 27) (a 25) (a 22) (a 26) (a 24) (a 23) (a 43) (s 46) (s 47) (s 48) (s 49) (s 50) (s 51) (s 52) (s 53) (a 44) (a 45) (a 42) (a 40) (a 37) (a 41) (a 39) (a 38) a1 a2 = some (-1, 1, s 33, s 34, s 35, s 36, s 45, a 27, a 25, a 22, a 26, a 24, a 23, a 43, s 50, s 51, s 52, s 53, a 44, a 45, a 42, a 40, a 37, a 41, a 39, a 38) := by
  unfold fX5_read
  first | with_reducible refine Eq.trans n_if ?_ | with_reducible refine Eq.trans n_pl ?_ | with_reducible refine Eq.trans n_li ?_ | with_reducible refine Eq.trans n_se ?_
  rfl
theorem nM_read (s : Nat → Int32) (a : Nat → Nat → Int32) (a1 : Int32) (a2 : Int32) : fX7_read_n (s 0) (s 1) (s 2) a1 a2 = some (-1, 0, 1, -1) := rfl
theorem nX_write (s : Nat → Int32) (a : Nat → Nat → Int32) (a1 : Int32) (a2 : Int32) (a3 : Int32) : fX5_write 0 (s 3) (s 29) (s 30) (s 31) (s 32) (s 33) (s 34) (s 35) (s 36) (s 45) (a 27) (a 25) (a 22) (a 26) (a 24) (a 23) (a 43) (s 46) (s 47) (s 48) (s 49) (s 50) (s 51) (s 52) (s 53) (a 44) (a 45) (a 42) (a 40) (a 37) (a 41) (a 39) (a 38) a1 a2 a3 = some (-1, 1, s 33, s 34, s 35, s 36, s 45, a 27, a 25, a 22, a 26, a 24, a 23, a 43, s 50, s 51, s 52, s 53, a 44, a 45, a 42, a 40, a 37, a 41, a 39, a 38) := by
  unfold fX5_write
  first | with_reducible refine Eq.trans n_if ?_ | with_reducible refine Eq.trans n_pl ?_ | with_reducible refine Eq.trans n_li ?_ | with_reducible refine Eq.trans n_se ?_
  rfl
theorem nM_write (s : Nat → Int32) (a : Nat → Nat → Int32) (a1 : Int32) (a2 : Int32) (a3 : Int32) : fX7_write_n (s 0) (s 1) (s 2) a1 a2 a3 = some (-1, 0, 1, -1) := rfl
theorem nX_drop (s : Nat → Int32) (a : Nat → Nat → Int32) (a1 : Int32) : fX5_drop 0 (s 3) (s 29) (s 30) (s 31) (s 32) (s 33) (s 34) (s 35) (s 36) (s 45) (a 27) (a 25) (a 22) (a 26) (a 24) (a 23) (a 43) (s 46) (s 47) (s 48) (s 49) (s 50) (s 51) (s 52) (s 53) (a 44) (a 45) (a 42) (a 40) (a 37) (a 41) (a 39) (a 38) a1 = some (-1, 1, s 33, s 34, s 35, s 36, s 45, a 27, a 25, a 22, a 26, a 24, a 23, a 43, s 50, s 51, s 52, s 53, a 44, a 45, a 42, a 40, a 37, a 41, a 39, a 38) := by
  unfold fX5_drop
  first | with_reducible refine Eq.trans n_if ?_ | with_reducible refine Eq.trans n_pl ?_ | with_reducible refine Eq.trans n_li ?_ | with_reducible refine Eq.trans n_se ?_
  rfl
theorem nM_drop (s : Nat → Int32) (a : Nat → Nat → Int32) (a1 : Int32) : fX7_drop_n (s 0) (s 1) (s 2) (a 2) a1 = some (-1, 0, 1, -1) := rfl
theorem nX_clean (s : Nat → Int32) (a : Nat → Nat → Int32) : fX5_clean 0 (s 3) (s 29) (s 30) (s 31) (s 32) (s 33) (s 34) (s 35) (s 36) (s 45) (a 27) (a 25) (a 22) (a 26) (a 24) (a 23) (a 43) (s 46) (s 47) (s 48) (s 49) (s 50) (s 51) (s 52) (s 53) (a 44) (a 45) (a 42) (a 40) (a 37) (a 41) (a 39) (a 38) = some (-1, 1, s 33, s 34, s 35, s 36, s 45, a 27, a 25, a 22, a 26, a 24, a 23, a 43, s 50, s 51, s 52, s 53, a 44, a 45, a 42, a 40, a 37, a 41, a 39, a 38) := by
  unfold fX5_clean
  first | with_reducible refine Eq.trans n_if ?_ | with_reducible refine Eq.trans n_pl ?_ | with_reducible refine Eq.trans n_li ?_ | with_reducible refine Eq.trans n_se ?_
  rfl
theorem nM_clean (s : Nat → Int32) (a : Nat → Nat → Int32) : fX7_clean_n (s 0) (s 1) (s 2) = some (-1, 0, 1, -1) := rfl
