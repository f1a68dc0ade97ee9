noncomputable def fX7_drop_56 (s_cache_ways : Int32)  (t0 : Int32) (s_thrown : Int32) (s_trouble : Int32) (s_where : Int32) (s_acts : Int32) (s_ways : Int32) (s_victims : Int32) (s_backs : Int32) (s_past : (Nat → Int32)) (s_v0 : (Nat → Int32)) (s_x : (Nat → Int32)) : Option (Int32 × Int32 × Int32 × Int32 × Int32 × Int32 × Int32 × Int32 × (Nat → Int32) × (Nat → Int32) × (Nat → Int32)) :=
  (fX7_done s_trouble s_where s_v0 s_x t0).bind fun x1 =>
    some (x1.1, s_thrown, x1.2.1, x1.2.2.1, s_acts, s_ways, s_victims, s_backs, s_past, x1.2.2.2, s_x)
noncomputable def fX7_drop (s_thrown : Int32) (s_trouble : Int32) (s_where : Int32) (s_acts : Int32) (s_ways : Int32) (s_victims : Int32) (s_backs : Int32) (s_cache_ways : Int32) (s_past : (Nat → Int32)) (s_v0 : (Nat → Int32)) (s_x : (Nat → Int32)) (a1 : Int32) : Option (Int32 × Int32 × Int32 × Int32 × Int32 × Int32 × Int32 × Int32 × (Nat → Int32) × (Nat → Int32) × (Nat → Int32)) :=
  (fX7_isLine a1).bind fun x1 =>
    if x1 = 0 then ((fX7_refused s_trouble s_where 1).bind fun x7 =>
    some (x7.1, 0, x7.2.1, x7.2.2, s_acts, s_ways, s_victims, s_backs, s_past, s_v0, s_x))
    else (zlet (512 + a1 : Int32) fun x2 =>
    zald s_v0 609 x2 fun x3 =>
    if x3 = 0 then ((fX7_refused s_trouble s_where 5).bind fun x6 =>
    some (x6.1, 0, x6.2.1, x6.2.2, s_acts, s_ways, s_victims, s_backs, s_past, s_v0, s_x))
    else ((fX7_remembers s_acts s_ways s_victims s_backs s_cache_ways s_past s_v0 s_x).bind fun x4 =>
    (fX7_leaves x4.2.2.2.1 x4.2.2.2.2.2 a1).bind fun x5 =>
    if x5.1 = 0 then (fX7_drop_56 s_cache_ways  0 0 s_trouble s_where x4.1 x4.2.1 x4.2.2.1 x5.2.1 x4.2.2.2.2.1 s_v0 x5.2.2)
    else (fX7_drop_56 s_cache_ways  1 0 s_trouble s_where x4.1 x4.2.1 x4.2.2.1 x5.2.1 x4.2.2.2.2.1 s_v0 x5.2.2)))
set_option maxHeartbeats 4000000 in
set_option maxRecDepth 100000 in
theorem wX7_drop (E : zE) (q_this : Nat) (q_cache : Nat) (q_past : Nat) (q_v0 : Nat) (q_x : Nat) (s_thrown : Int32) (s_trouble : Int32) (s_where : Int32) (s_taped : Int32) (s_size : Int32) (s_spot : Int32) (s_sort : Int32) (s_place : Int32) (s_number : Int32) (s_fault : Int32) (s_wrongAt : Int32) (s_letters : Int64) (s_acts : Int32) (s_images : Int32) (s_ways : Int32) (s_victims : Int32) (s_backs : Int32) (s_ordered : Int32) (s_hitNow : Int32) (s_hitsNow : Int32) (s_plainHit : Int32) (s_plainBack : Int32) (s_fitsNow : Int32) (s_someNow : Int32) (s_everyNow : Int32) (s_askLeft : Int32) (s_drawn : Int32) (s_cache_sets : Int32) (s_cache_ways : Int32) (s_cache_lines : Int32) (s_cache_told : Int32) (s_cache_steps : Int32) (s_cache_unsures : Int32) (s_cache_saws : Int32) (s_cache_hit : Int32) (s_cache_weighed : Int32) (s_past : (Nat → Int32)) (s_v0 : (Nat → Int32)) (s_x : (Nat → Int32)) (v_read : Value) (v_tape : Value) (v_kept : Value) (v_order : Value) (v_plainLine : Value) (v_plainDirty : Value) (v_otherIn : Value) (v_cache_memory : Value) (v_cache_line : Value) (v_cache_at : Value) (v_cache_put : Value) (v_cache_unsure : Value) (v_cache_may : Value) (v_cache_saw : Value) (a1 : Int32) (x : Int32 × Int32 × Int32 × Int32 × Int32 × Int32 × Int32 × Int32 × (Nat → Int32) × (Nat → Int32) × (Nat → Int32)) (hf : fX7_drop s_thrown s_trouble s_where s_acts s_ways s_victims s_backs s_cache_ways s_past s_v0 s_x a1 = some x) (l : Launch) (sz : Nat) : zM l yX7_drop cX7_drop 2 (some .int) { frames := 3, cells := 0, slots := 0, locals := 62 } E [.ref q_this, .int a1] [(q_this, .inr (6, [.int s_thrown, .int s_trouble, .int s_where, .ref q_cache, v_read, v_tape, .int s_taped, .int s_size, .int s_spot, .int s_sort, .int s_place, .int s_number, .int s_fault, .int s_wrongAt, .long s_letters, .ref q_v0, .ref q_x, .ref q_past, v_kept, .int s_acts, .int s_images, .int s_ways, .int s_victims, .int s_backs, v_order, .int s_ordered, .int s_hitNow, .int s_hitsNow, v_plainLine, v_plainDirty, .int s_plainHit, .int s_plainBack, .int s_fitsNow, .int s_someNow, .int s_everyNow, v_otherIn, .int s_askLeft, .int s_drawn])), (q_cache, .inr (5, [.int s_cache_sets, .int s_cache_ways, .int s_cache_lines, .int s_cache_told, .int s_cache_steps, .int s_cache_unsures, .int s_cache_saws, .int s_cache_hit, .int s_cache_weighed, v_cache_memory, v_cache_line, v_cache_at, v_cache_put, v_cache_unsure, v_cache_may, v_cache_saw])), (q_past, .inl (E.2.1 0, 9744, .inl s_past)), (q_v0, .inl (E.2.1 0, 609, .inl s_v0)), (q_x, .inl (E.2.1 0, 609, .inl s_x))] sz (some (.int x.1)) [(q_this, .inr (6, [.int x.2.1, .int x.2.2.1, .int x.2.2.2.1, .ref q_cache, v_read, v_tape, .int s_taped, .int s_size, .int s_spot, .int s_sort, .int s_place, .int s_number, .int s_fault, .int s_wrongAt, .long s_letters, .ref q_v0, .ref q_x, .ref q_past, v_kept, .int x.2.2.2.2.1, .int s_images, .int x.2.2.2.2.2.1, .int x.2.2.2.2.2.2.1, .int x.2.2.2.2.2.2.2.1, v_order, .int s_ordered, .int s_hitNow, .int s_hitsNow, v_plainLine, v_plainDirty, .int s_plainHit, .int s_plainBack, .int s_fitsNow, .int s_someNow, .int s_everyNow, v_otherIn, .int s_askLeft, .int s_drawn])), (q_cache, .inr (5, [.int s_cache_sets, .int s_cache_ways, .int s_cache_lines, .int s_cache_told, .int s_cache_steps, .int s_cache_unsures, .int s_cache_saws, .int s_cache_hit, .int s_cache_weighed, v_cache_memory, v_cache_line, v_cache_at, v_cache_put, v_cache_unsure, v_cache_may, v_cache_saw])), (q_past, .inl (E.2.1 0, 9744, .inl x.2.2.2.2.2.2.2.2.1)), (q_v0, .inl (E.2.1 0, 609, .inl x.2.2.2.2.2.2.2.2.2.1)), (q_x, .inl (E.2.1 0, 609, .inl x.2.2.2.2.2.2.2.2.2.2))] := by
  refine zEnter (by decide) (Nat.le_of_ble_eq_true rfl) ?_
  intro C hC hR
  change zC C E cX7_drop "PackedCacheModel" 2 _ at hC
  have B56 : ∀ (t0 : Int32) (s_thrown : Int32) (s_trouble : Int32) (s_where : Int32) (s_acts : Int32) (s_ways : Int32) (s_victims : Int32) (s_backs : Int32) (s_past : (Nat → Int32)) (s_v0 : (Nat → Int32)) (s_x : (Nat → Int32)), fX7_drop_56 s_cache_ways  t0 s_thrown s_trouble s_where s_acts s_ways s_victims s_backs s_past s_v0 s_x = some x → J C 0 0 [(q_this, .inr (6, [.int s_thrown, .int s_trouble, .int s_where, .ref q_cache, v_read, v_tape, .int s_taped, .int s_size, .int s_spot, .int s_sort, .int s_place, .int s_number, .int s_fault, .int s_wrongAt, .long s_letters, .ref q_v0, .ref q_x, .ref q_past, v_kept, .int s_acts, .int s_images, .int s_ways, .int s_victims, .int s_backs, v_order, .int s_ordered, .int s_hitNow, .int s_hitsNow, v_plainLine, v_plainDirty, .int s_plainHit, .int s_plainBack, .int s_fitsNow, .int s_someNow, .int s_everyNow, v_otherIn, .int s_askLeft, .int s_drawn])), (q_cache, .inr (5, [.int s_cache_sets, .int s_cache_ways, .int s_cache_lines, .int s_cache_told, .int s_cache_steps, .int s_cache_unsures, .int s_cache_saws, .int s_cache_hit, .int s_cache_weighed, v_cache_memory, v_cache_line, v_cache_at, v_cache_put, v_cache_unsure, v_cache_may, v_cache_saw])), (q_past, .inl (E.2.1 0, 9744, .inl s_past)), (q_v0, .inl (E.2.1 0, 609, .inl s_v0)), (q_x, .inl (E.2.1 0, 609, .inl s_x))] [] 56 [.int t0, .ref q_this] := by
    intro  t0 s_thrown s_trouble s_where s_acts s_ways s_victims s_backs s_past s_v0 s_x hf
    unfold fX7_drop_56 at hf
    refine j_callV (q := 59) hC [.int t0] [] (fun x1 : Int32 × Int32 × Int32 × (Nat → Int32) => some (.int x1.1)) (fun x1 => [(q_this, .inr (6, [.int s_thrown, .int x1.2.1, .int x1.2.2.1, .ref q_cache, v_read, v_tape, .int s_taped, .int s_size, .int s_spot, .int s_sort, .int s_place, .int s_number, .int s_fault, .int s_wrongAt, .long s_letters, .ref q_v0, .ref q_x, .ref q_past, v_kept, .int s_acts, .int s_images, .int s_ways, .int s_victims, .int s_backs, v_order, .int s_ordered, .int s_hitNow, .int s_hitsNow, v_plainLine, v_plainDirty, .int s_plainHit, .int s_plainBack, .int s_fitsNow, .int s_someNow, .int s_everyNow, v_otherIn, .int s_askLeft, .int s_drawn])), (q_v0, .inl (E.2.1 0, 609, .inl x1.2.2.2)), (q_x, .inl (E.2.1 0, 609, .inl s_x))]) (fun x1 => [(q_this, .inr (6, [.int s_thrown, .int x1.2.1, .int x1.2.2.1, .ref q_cache, v_read, v_tape, .int s_taped, .int s_size, .int s_spot, .int s_sort, .int s_place, .int s_number, .int s_fault, .int s_wrongAt, .long s_letters, .ref q_v0, .ref q_x, .ref q_past, v_kept, .int s_acts, .int s_images, .int s_ways, .int s_victims, .int s_backs, v_order, .int s_ordered, .int s_hitNow, .int s_hitsNow, v_plainLine, v_plainDirty, .int s_plainHit, .int s_plainBack, .int s_fitsNow, .int s_someNow, .int s_everyNow, v_otherIn, .int s_askLeft, .int s_drawn])), (q_cache, .inr (5, [.int s_cache_sets, .int s_cache_ways, .int s_cache_lines, .int s_cache_told, .int s_cache_steps, .int s_cache_unsures, .int s_cache_saws, .int s_cache_hit, .int s_cache_weighed, v_cache_memory, v_cache_line, v_cache_at, v_cache_put, v_cache_unsure, v_cache_may, v_cache_saw])), (q_past, .inl (E.2.1 0, 9744, .inl s_past)), (q_v0, .inl (E.2.1 0, 609, .inl x1.2.2.2)), (q_x, .inl (E.2.1 0, 609, .inl s_x))]) (fun x1 => [.int x1.1]) [0, 3, 4] [1, 2] hf (fun x1 hx => wX7_done E q_this q_v0 q_x s_thrown s_trouble s_where s_taped s_size s_spot s_sort s_place s_number s_fault s_wrongAt s_letters s_acts s_images s_ways s_victims s_backs s_ordered s_hitNow s_hitsNow s_plainHit s_plainBack s_fitsNow s_someNow s_everyNow s_askLeft s_drawn s_v0 s_x (.ref q_cache) (v_read) (v_tape) (.ref q_past) (v_kept) (v_order) (v_plainLine) (v_plainDirty) (v_otherIn) t0 x1  hx) zy_X7_done zw_1567 (by unfold zRm; decide) rfl rfl (fun _ => rfl) (N := 5) (by decide) (fun _ => ⟨rfl, rfl, rfl⟩) rfl rfl rfl (Nat.le_of_ble_eq_true rfl) dX7_drop_56 rfl rfl (fun _ => rfl) (fun x1 hf => ?_)
    have hx := Option.some.inj hf
    exact j_iret hC hR dX7_drop_59 (by rw [← hx]) (by rw [← hx])
  unfold fX7_drop at hf
  refine j_sub (lv' := [(0, .ref q_this), (1, .int a1)]) [0, 1] rfl ?_
  refine j_aload_n (q := 1) hC dX7_drop_0 rfl rfl 0 rfl ?_
  refine j_iconst (q := 2) (v := 0) hC dX7_drop_1 rfl (by decide) ?_
  refine j_put (q := 5) (host := "") hC zcl_X7 0 0 (ws' := [(q_this, .inr (6, [.int 0, .int s_trouble, .int s_where, .ref q_cache, v_read, v_tape, .int s_taped, .int s_size, .int s_spot, .int s_sort, .int s_place, .int s_number, .int s_fault, .int s_wrongAt, .long s_letters, .ref q_v0, .ref q_x, .ref q_past, v_kept, .int s_acts, .int s_images, .int s_ways, .int s_victims, .int s_backs, v_order, .int s_ordered, .int s_hitNow, .int s_hitsNow, v_plainLine, v_plainDirty, .int s_plainHit, .int s_plainBack, .int s_fitsNow, .int s_someNow, .int s_everyNow, v_otherIn, .int s_askLeft, .int s_drawn])), (q_cache, .inr (5, [.int s_cache_sets, .int s_cache_ways, .int s_cache_lines, .int s_cache_told, .int s_cache_steps, .int s_cache_unsures, .int s_cache_saws, .int s_cache_hit, .int s_cache_weighed, v_cache_memory, v_cache_line, v_cache_at, v_cache_put, v_cache_unsure, v_cache_may, v_cache_saw])), (q_past, .inl (E.2.1 0, 9744, .inl s_past)), (q_v0, .inl (E.2.1 0, 609, .inl s_v0)), (q_x, .inl (E.2.1 0, 609, .inl s_x))]) zw_901 ⟨rfl, rfl, by decide, rfl⟩ rfl rfl rfl (Nat.le_of_ble_eq_true rfl) rfl dX7_drop_2 rfl ?_
  refine j_aload_n (q := 6) hC dX7_drop_5 rfl rfl 0 rfl ?_
  refine j_iload_n (q := 7) hC dX7_drop_6 rfl rfl 1 rfl ?_
  refine j_callV (q := 10) hC [.int a1] [] (fun x1 : Int32 => some (.int x1)) (fun x1 => [(q_this, .inr (6, [.int 0, .int s_trouble, .int s_where, .ref q_cache, v_read, v_tape, .int s_taped, .int s_size, .int s_spot, .int s_sort, .int s_place, .int s_number, .int s_fault, .int s_wrongAt, .long s_letters, .ref q_v0, .ref q_x, .ref q_past, v_kept, .int s_acts, .int s_images, .int s_ways, .int s_victims, .int s_backs, v_order, .int s_ordered, .int s_hitNow, .int s_hitsNow, v_plainLine, v_plainDirty, .int s_plainHit, .int s_plainBack, .int s_fitsNow, .int s_someNow, .int s_everyNow, v_otherIn, .int s_askLeft, .int s_drawn]))]) (fun x1 => [(q_this, .inr (6, [.int 0, .int s_trouble, .int s_where, .ref q_cache, v_read, v_tape, .int s_taped, .int s_size, .int s_spot, .int s_sort, .int s_place, .int s_number, .int s_fault, .int s_wrongAt, .long s_letters, .ref q_v0, .ref q_x, .ref q_past, v_kept, .int s_acts, .int s_images, .int s_ways, .int s_victims, .int s_backs, v_order, .int s_ordered, .int s_hitNow, .int s_hitsNow, v_plainLine, v_plainDirty, .int s_plainHit, .int s_plainBack, .int s_fitsNow, .int s_someNow, .int s_everyNow, v_otherIn, .int s_askLeft, .int s_drawn])), (q_cache, .inr (5, [.int s_cache_sets, .int s_cache_ways, .int s_cache_lines, .int s_cache_told, .int s_cache_steps, .int s_cache_unsures, .int s_cache_saws, .int s_cache_hit, .int s_cache_weighed, v_cache_memory, v_cache_line, v_cache_at, v_cache_put, v_cache_unsure, v_cache_may, v_cache_saw])), (q_past, .inl (E.2.1 0, 9744, .inl s_past)), (q_v0, .inl (E.2.1 0, 609, .inl s_v0)), (q_x, .inl (E.2.1 0, 609, .inl s_x))]) (fun x1 => [.int x1]) [0] [1, 2, 3, 4] hf (fun x1 hx => wX7_isLine E q_this q_cache 0 s_trouble s_where s_taped s_size s_spot s_sort s_place s_number s_fault s_wrongAt s_letters s_acts s_images s_ways s_victims s_backs s_ordered s_hitNow s_hitsNow s_plainHit s_plainBack s_fitsNow s_someNow s_everyNow s_askLeft s_drawn (v_read) (v_tape) (.ref q_v0) (.ref q_x) (.ref q_past) (v_kept) (v_order) (v_plainLine) (v_plainDirty) (v_otherIn) a1 x1  hx) zy_X7_isLine zw_1229 (by unfold zRm; decide) rfl rfl (fun _ => rfl) (N := 5) (by decide) (fun _ => ⟨rfl, rfl, rfl⟩) rfl rfl rfl (Nat.le_of_ble_eq_true rfl) dX7_drop_7 rfl rfl (fun _ => rfl) (fun x1 hf => ?_)
  refine j_if_ne (tgt := 19) (q := 13) hC dX7_drop_10 (by decide) rfl hf (fun _ hf => ?_) (fun _ hf => ?_)
  · refine j_aload_n (q := 20) hC dX7_drop_19 rfl rfl 0 rfl ?_
    refine j_get (q := 23) hC zcl_X7 0 15 zw_916 ⟨rfl, rfl, by decide⟩ rfl rfl dX7_drop_20 rfl ?_
    refine j_sipush (q := 26) (v := 512) hC dX7_drop_23 rfl (by decide) ?_
    refine j_iload_n (q := 27) hC dX7_drop_26 rfl rfl 1 rfl ?_
    refine j_iadd (q := 28) hC dX7_drop_27 rfl hf (fun x2 hf => ?_)
    refine j_iald (q := 29) hC 3 rfl dX7_drop_28 rfl hf (fun x3 hf => ?_)
    refine j_if_ne (tgt := 38) (q := 32) hC dX7_drop_29 (by decide) rfl hf (fun _ hf => ?_) (fun _ hf => ?_)
    · refine j_aload_n (q := 39) hC dX7_drop_38 rfl rfl 0 rfl ?_
      refine j_callV (q := 42) hC [] [] (fun x4 : Int32 × Int32 × Int32 × Int32 × (Nat → Int32) × (Nat → Int32) => none) (fun x4 => [(q_this, .inr (6, [.int 0, .int s_trouble, .int s_where, .ref q_cache, v_read, v_tape, .int s_taped, .int s_size, .int s_spot, .int s_sort, .int s_place, .int s_number, .int s_fault, .int s_wrongAt, .long s_letters, .ref q_v0, .ref q_x, .ref q_past, v_kept, .int x4.1, .int s_images, .int x4.2.1, .int x4.2.2.1, .int x4.2.2.2.1, v_order, .int s_ordered, .int s_hitNow, .int s_hitsNow, v_plainLine, v_plainDirty, .int s_plainHit, .int s_plainBack, .int s_fitsNow, .int s_someNow, .int s_everyNow, v_otherIn, .int s_askLeft, .int s_drawn])), (q_cache, .inr (5, [.int s_cache_sets, .int s_cache_ways, .int s_cache_lines, .int s_cache_told, .int s_cache_steps, .int s_cache_unsures, .int s_cache_saws, .int s_cache_hit, .int s_cache_weighed, v_cache_memory, v_cache_line, v_cache_at, v_cache_put, v_cache_unsure, v_cache_may, v_cache_saw])), (q_past, .inl (E.2.1 0, 9744, .inl x4.2.2.2.2.1)), (q_v0, .inl (E.2.1 0, 609, .inl s_v0)), (q_x, .inl (E.2.1 0, 609, .inl x4.2.2.2.2.2))]) (fun x4 => [(q_this, .inr (6, [.int 0, .int s_trouble, .int s_where, .ref q_cache, v_read, v_tape, .int s_taped, .int s_size, .int s_spot, .int s_sort, .int s_place, .int s_number, .int s_fault, .int s_wrongAt, .long s_letters, .ref q_v0, .ref q_x, .ref q_past, v_kept, .int x4.1, .int s_images, .int x4.2.1, .int x4.2.2.1, .int x4.2.2.2.1, v_order, .int s_ordered, .int s_hitNow, .int s_hitsNow, v_plainLine, v_plainDirty, .int s_plainHit, .int s_plainBack, .int s_fitsNow, .int s_someNow, .int s_everyNow, v_otherIn, .int s_askLeft, .int s_drawn])), (q_cache, .inr (5, [.int s_cache_sets, .int s_cache_ways, .int s_cache_lines, .int s_cache_told, .int s_cache_steps, .int s_cache_unsures, .int s_cache_saws, .int s_cache_hit, .int s_cache_weighed, v_cache_memory, v_cache_line, v_cache_at, v_cache_put, v_cache_unsure, v_cache_may, v_cache_saw])), (q_past, .inl (E.2.1 0, 9744, .inl x4.2.2.2.2.1)), (q_v0, .inl (E.2.1 0, 609, .inl s_v0)), (q_x, .inl (E.2.1 0, 609, .inl x4.2.2.2.2.2))]) (fun x4 => []) [0, 1, 2, 3, 4] [] hf (fun x4 hx => wX7_remembers E q_this q_cache q_past q_v0 q_x 0 s_trouble s_where s_taped s_size s_spot s_sort s_place s_number s_fault s_wrongAt s_letters s_acts s_images s_ways s_victims s_backs s_ordered s_hitNow s_hitsNow s_plainHit s_plainBack s_fitsNow s_someNow s_everyNow s_askLeft s_drawn s_cache_sets s_cache_ways s_cache_lines s_cache_told s_cache_steps s_cache_unsures s_cache_saws s_cache_hit s_cache_weighed s_past s_v0 s_x (v_read) (v_tape) (v_kept) (v_order) (v_plainLine) (v_plainDirty) (v_otherIn) (v_cache_memory) (v_cache_line) (v_cache_at) (v_cache_put) (v_cache_unsure) (v_cache_may) (v_cache_saw) x4  hx) zy_X7_remembers zw_1563 (by unfold zRm; decide) rfl rfl (fun _ => rfl) (N := 5) (by decide) (fun _ => ⟨rfl, rfl, rfl⟩) rfl rfl rfl (Nat.le_of_ble_eq_true rfl) dX7_drop_39 rfl rfl (fun _ => rfl) (fun x4 hf => ?_)
      refine j_aload_n (q := 43) hC dX7_drop_42 rfl rfl 0 rfl ?_
      refine j_aload_n (q := 44) hC dX7_drop_43 rfl rfl 0 rfl ?_
      refine j_iload_n (q := 45) hC dX7_drop_44 rfl rfl 1 rfl ?_
      refine j_callV (q := 48) hC [.int a1] [.ref q_this] (fun x5 : Int32 × Int32 × (Nat → Int32) => some (.int x5.1)) (fun x5 => [(q_this, .inr (6, [.int 0, .int s_trouble, .int s_where, .ref q_cache, v_read, v_tape, .int s_taped, .int s_size, .int s_spot, .int s_sort, .int s_place, .int s_number, .int s_fault, .int s_wrongAt, .long s_letters, .ref q_v0, .ref q_x, .ref q_past, v_kept, .int x4.1, .int s_images, .int x4.2.1, .int x4.2.2.1, .int x5.2.1, v_order, .int s_ordered, .int s_hitNow, .int s_hitsNow, v_plainLine, v_plainDirty, .int s_plainHit, .int s_plainBack, .int s_fitsNow, .int s_someNow, .int s_everyNow, v_otherIn, .int s_askLeft, .int s_drawn])), (q_x, .inl (E.2.1 0, 609, .inl x5.2.2))]) (fun x5 => [(q_this, .inr (6, [.int 0, .int s_trouble, .int s_where, .ref q_cache, v_read, v_tape, .int s_taped, .int s_size, .int s_spot, .int s_sort, .int s_place, .int s_number, .int s_fault, .int s_wrongAt, .long s_letters, .ref q_v0, .ref q_x, .ref q_past, v_kept, .int x4.1, .int s_images, .int x4.2.1, .int x4.2.2.1, .int x5.2.1, v_order, .int s_ordered, .int s_hitNow, .int s_hitsNow, v_plainLine, v_plainDirty, .int s_plainHit, .int s_plainBack, .int s_fitsNow, .int s_someNow, .int s_everyNow, v_otherIn, .int s_askLeft, .int s_drawn])), (q_cache, .inr (5, [.int s_cache_sets, .int s_cache_ways, .int s_cache_lines, .int s_cache_told, .int s_cache_steps, .int s_cache_unsures, .int s_cache_saws, .int s_cache_hit, .int s_cache_weighed, v_cache_memory, v_cache_line, v_cache_at, v_cache_put, v_cache_unsure, v_cache_may, v_cache_saw])), (q_past, .inl (E.2.1 0, 9744, .inl x4.2.2.2.2.1)), (q_v0, .inl (E.2.1 0, 609, .inl s_v0)), (q_x, .inl (E.2.1 0, 609, .inl x5.2.2))]) (fun x5 => [.int x5.1, .ref q_this]) [0, 4] [1, 2, 3] hf (fun x5 hx => wX7_leaves E q_this q_x 0 s_trouble s_where s_taped s_size s_spot s_sort s_place s_number s_fault s_wrongAt s_letters x4.1 s_images x4.2.1 x4.2.2.1 x4.2.2.2.1 s_ordered s_hitNow s_hitsNow s_plainHit s_plainBack s_fitsNow s_someNow s_everyNow s_askLeft s_drawn x4.2.2.2.2.2 (.ref q_cache) (v_read) (v_tape) (.ref q_v0) (.ref q_past) (v_kept) (v_order) (v_plainLine) (v_plainDirty) (v_otherIn) a1 x5  hx) zy_X7_leaves zw_1412 (by unfold zRm; decide) rfl rfl (fun _ => rfl) (N := 5) (by decide) (fun _ => ⟨rfl, rfl, rfl⟩) rfl rfl rfl (Nat.le_of_ble_eq_true rfl) dX7_drop_45 rfl rfl (fun _ => rfl) (fun x5 hf => ?_)
      refine j_if_eq (tgt := 55) (q := 51) hC dX7_drop_48 (by decide) rfl hf (fun _ hf => ?_) (fun _ hf => ?_)
      · refine j_iconst (q := 56) (v := 0) hC dX7_drop_55 rfl (by decide) ?_
        refine j_sub (lv' := []) [] rfl ?_
        exact B56  0 0 s_trouble s_where x4.1 x4.2.1 x4.2.2.1 x5.2.1 x4.2.2.2.2.1 s_v0 x5.2.2 hf
      · refine j_iconst (q := 52) (v := 1) hC dX7_drop_51 rfl (by decide) ?_
        refine j_goto (tgt := 56) hC dX7_drop_52 (by decide) ?_
        refine j_sub (lv' := []) [] rfl ?_
        exact B56  1 0 s_trouble s_where x4.1 x4.2.1 x4.2.2.1 x5.2.1 x4.2.2.2.2.1 s_v0 x5.2.2 hf
    · refine j_aload_n (q := 33) hC dX7_drop_32 rfl rfl 0 rfl ?_
      refine j_iconst (q := 34) (v := 5) hC dX7_drop_33 rfl (by decide) ?_
      refine j_callV (q := 37) hC [.int 5] [] (fun x6 : Int32 × Int32 × Int32 => some (.int x6.1)) (fun x6 => [(q_this, .inr (6, [.int 0, .int x6.2.1, .int x6.2.2, .ref q_cache, v_read, v_tape, .int s_taped, .int s_size, .int s_spot, .int s_sort, .int s_place, .int s_number, .int s_fault, .int s_wrongAt, .long s_letters, .ref q_v0, .ref q_x, .ref q_past, v_kept, .int s_acts, .int s_images, .int s_ways, .int s_victims, .int s_backs, v_order, .int s_ordered, .int s_hitNow, .int s_hitsNow, v_plainLine, v_plainDirty, .int s_plainHit, .int s_plainBack, .int s_fitsNow, .int s_someNow, .int s_everyNow, v_otherIn, .int s_askLeft, .int s_drawn]))]) (fun x6 => [(q_this, .inr (6, [.int 0, .int x6.2.1, .int x6.2.2, .ref q_cache, v_read, v_tape, .int s_taped, .int s_size, .int s_spot, .int s_sort, .int s_place, .int s_number, .int s_fault, .int s_wrongAt, .long s_letters, .ref q_v0, .ref q_x, .ref q_past, v_kept, .int s_acts, .int s_images, .int s_ways, .int s_victims, .int s_backs, v_order, .int s_ordered, .int s_hitNow, .int s_hitsNow, v_plainLine, v_plainDirty, .int s_plainHit, .int s_plainBack, .int s_fitsNow, .int s_someNow, .int s_everyNow, v_otherIn, .int s_askLeft, .int s_drawn])), (q_cache, .inr (5, [.int s_cache_sets, .int s_cache_ways, .int s_cache_lines, .int s_cache_told, .int s_cache_steps, .int s_cache_unsures, .int s_cache_saws, .int s_cache_hit, .int s_cache_weighed, v_cache_memory, v_cache_line, v_cache_at, v_cache_put, v_cache_unsure, v_cache_may, v_cache_saw])), (q_past, .inl (E.2.1 0, 9744, .inl s_past)), (q_v0, .inl (E.2.1 0, 609, .inl s_v0)), (q_x, .inl (E.2.1 0, 609, .inl s_x))]) (fun x6 => [.int x6.1]) [0] [1, 2, 3, 4] hf (fun x6 hx => wX7_refused E q_this 0 s_trouble s_where s_taped s_size s_spot s_sort s_place s_number s_fault s_wrongAt s_letters s_acts s_images s_ways s_victims s_backs s_ordered s_hitNow s_hitsNow s_plainHit s_plainBack s_fitsNow s_someNow s_everyNow s_askLeft s_drawn (.ref q_cache) (v_read) (v_tape) (.ref q_v0) (.ref q_x) (.ref q_past) (v_kept) (v_order) (v_plainLine) (v_plainDirty) (v_otherIn) 5 x6  hx) zy_X7_refused zw_1029 (by unfold zRm; decide) rfl rfl (fun _ => rfl) (N := 5) (by decide) (fun _ => ⟨rfl, rfl, rfl⟩) rfl rfl rfl (Nat.le_of_ble_eq_true rfl) dX7_drop_34 rfl rfl (fun _ => rfl) (fun x6 hf => ?_)
      have hx := Option.some.inj hf
      exact j_iret hC hR dX7_drop_37 (by rw [← hx]) (by rw [← hx])
  · refine j_aload_n (q := 14) hC dX7_drop_13 rfl rfl 0 rfl ?_
    refine j_iconst (q := 15) (v := 1) hC dX7_drop_14 rfl (by decide) ?_
    refine j_callV (q := 18) hC [.int 1] [] (fun x7 : Int32 × Int32 × Int32 => some (.int x7.1)) (fun x7 => [(q_this, .inr (6, [.int 0, .int x7.2.1, .int x7.2.2, .ref q_cache, v_read, v_tape, .int s_taped, .int s_size, .int s_spot, .int s_sort, .int s_place, .int s_number, .int s_fault, .int s_wrongAt, .long s_letters, .ref q_v0, .ref q_x, .ref q_past, v_kept, .int s_acts, .int s_images, .int s_ways, .int s_victims, .int s_backs, v_order, .int s_ordered, .int s_hitNow, .int s_hitsNow, v_plainLine, v_plainDirty, .int s_plainHit, .int s_plainBack, .int s_fitsNow, .int s_someNow, .int s_everyNow, v_otherIn, .int s_askLeft, .int s_drawn]))]) (fun x7 => [(q_this, .inr (6, [.int 0, .int x7.2.1, .int x7.2.2, .ref q_cache, v_read, v_tape, .int s_taped, .int s_size, .int s_spot, .int s_sort, .int s_place, .int s_number, .int s_fault, .int s_wrongAt, .long s_letters, .ref q_v0, .ref q_x, .ref q_past, v_kept, .int s_acts, .int s_images, .int s_ways, .int s_victims, .int s_backs, v_order, .int s_ordered, .int s_hitNow, .int s_hitsNow, v_plainLine, v_plainDirty, .int s_plainHit, .int s_plainBack, .int s_fitsNow, .int s_someNow, .int s_everyNow, v_otherIn, .int s_askLeft, .int s_drawn])), (q_cache, .inr (5, [.int s_cache_sets, .int s_cache_ways, .int s_cache_lines, .int s_cache_told, .int s_cache_steps, .int s_cache_unsures, .int s_cache_saws, .int s_cache_hit, .int s_cache_weighed, v_cache_memory, v_cache_line, v_cache_at, v_cache_put, v_cache_unsure, v_cache_may, v_cache_saw])), (q_past, .inl (E.2.1 0, 9744, .inl s_past)), (q_v0, .inl (E.2.1 0, 609, .inl s_v0)), (q_x, .inl (E.2.1 0, 609, .inl s_x))]) (fun x7 => [.int x7.1]) [0] [1, 2, 3, 4] hf (fun x7 hx => wX7_refused E q_this 0 s_trouble s_where s_taped s_size s_spot s_sort s_place s_number s_fault s_wrongAt s_letters s_acts s_images s_ways s_victims s_backs s_ordered s_hitNow s_hitsNow s_plainHit s_plainBack s_fitsNow s_someNow s_everyNow s_askLeft s_drawn (.ref q_cache) (v_read) (v_tape) (.ref q_v0) (.ref q_x) (.ref q_past) (v_kept) (v_order) (v_plainLine) (v_plainDirty) (v_otherIn) 1 x7  hx) zy_X7_refused zw_1029 (by unfold zRm; decide) rfl rfl (fun _ => rfl) (N := 5) (by decide) (fun _ => ⟨rfl, rfl, rfl⟩) rfl rfl rfl (Nat.le_of_ble_eq_true rfl) dX7_drop_15 rfl rfl (fun _ => rfl) (fun x7 hf => ?_)
    have hx := Option.some.inj hf
    exact j_iret hC hR dX7_drop_18 (by rw [← hx]) (by rw [← hx])
noncomputable def fX7_clean_64 (s_cache_ways : Int32)  : Nat → Int32 → Int32 → Int32 → Int32 → Int32 → Int32 → Int32 → Int32 → Int32 → (Nat → Int32) → (Nat → Int32) → (Nat → Int32) → Option (Int32 × Int32 × Int32 × Int32 × Int32 × Int32 × Int32 × Int32 × (Nat → Int32) × (Nat → Int32) × (Nat → Int32))
  | 0, _, _, _, _, _, _, _, _, _, _, _, _ => none
  | m + 1, b1, b2, s_thrown, s_trouble, s_where, s_acts, s_ways, s_victims, s_backs, s_past, s_v0, s_x =>
    if 32 ≤ b2 then ((fX7_done s_trouble s_where s_v0 s_x b1).bind fun x1 =>
    some (x1.1, s_thrown, x1.2.1, x1.2.2.1, s_acts, s_ways, s_victims, s_backs, s_past, x1.2.2.2, s_x))
    else ((fX7_writesBack s_backs s_x b2).bind fun x2 =>
    zlet (b2 + 1) fun x3 =>
    fX7_clean_64 s_cache_ways  m b1 x3 s_thrown s_trouble s_where s_acts s_ways s_victims x2.2.1 s_past s_v0 x2.2.2)
noncomputable def fX7_clean_24 (s_cache_ways : Int32)  : Nat → Int32 → Int32 → Int32 → Int32 → Int32 → Int32 → Int32 → Int32 → (Nat → Int32) → (Nat → Int32) → (Nat → Int32) → Option (Int32 × Int32 × Int32 × Int32 × Int32 × Int32 × Int32 × Int32 × (Nat → Int32) × (Nat → Int32) × (Nat → Int32))
  | 0, _, _, _, _, _, _, _, _, _, _, _ => none
  | m + 1, b1, s_thrown, s_trouble, s_where, s_acts, s_ways, s_victims, s_backs, s_past, s_v0, s_x =>
    if 32 ≤ b1 then (if s_backs = 0 then ((fX7_refused s_trouble s_where 6).bind fun x2 =>
    some (x2.1, s_thrown, x2.2.1, x2.2.2, s_acts, s_ways, s_victims, s_backs, s_past, s_v0, s_x))
    else ((fX7_remembers s_acts s_ways s_victims s_backs s_cache_ways s_past s_v0 s_x).bind fun x1 =>
    fX7_clean_64 s_cache_ways  zF s_backs 0 s_thrown s_trouble s_where x1.1 x1.2.1 x1.2.2.1 x1.2.2.2.1 x1.2.2.2.2.1 s_v0 x1.2.2.2.2.2))
    else ((fX7_writesBack s_backs s_x b1).bind fun x3 =>
    zlet (b1 + 1) fun x4 =>
    fX7_clean_24 s_cache_ways  m x4 s_thrown s_trouble s_where s_acts s_ways s_victims x3.2.1 s_past s_v0 x3.2.2)
noncomputable def fX7_clean (s_thrown : Int32) (s_trouble : Int32) (s_where : Int32) (s_acts : Int32) (s_ways : Int32) (s_victims : Int32) (s_backs : Int32) (s_cache_ways : Int32) (s_past : (Nat → Int32)) (s_v0 : (Nat → Int32)) (s_x : (Nat → Int32)) : Option (Int32 × Int32 × Int32 × Int32 × Int32 × Int32 × Int32 × Int32 × (Nat → Int32) × (Nat → Int32) × (Nat → Int32)) :=
  (fX7_works s_ways s_victims s_backs s_cache_ways s_v0 s_x).bind fun x1 =>
    fX7_clean_24 s_cache_ways  zF 0 0 s_trouble s_where s_acts x1.1 x1.2.1 x1.2.2.1 s_past s_v0 x1.2.2.2
set_option maxHeartbeats 4000000 in
set_option maxRecDepth 100000 in
theorem wX7_clean (E : zE) (q_this : Nat) (q_cache : Nat) (q_past : Nat) (q_v0 : Nat) (q_x : Nat) (s_thrown : Int32) (s_trouble : Int32) (s_where : Int32) (s_taped : Int32) (s_size : Int32) (s_spot : Int32) (s_sort : Int32) (s_place : Int32) (s_number : Int32) (s_fault : Int32) (s_wrongAt : Int32) (s_letters : Int64) (s_acts : Int32) (s_images : Int32) (s_ways : Int32) (s_victims : Int32) (s_backs : Int32) (s_ordered : Int32) (s_hitNow : Int32) (s_hitsNow : Int32) (s_plainHit : Int32) (s_plainBack : Int32) (s_fitsNow : Int32) (s_someNow : Int32) (s_everyNow : Int32) (s_askLeft : Int32) (s_drawn : Int32) (s_cache_sets : Int32) (s_cache_ways : Int32) (s_cache_lines : Int32) (s_cache_told : Int32) (s_cache_steps : Int32) (s_cache_unsures : Int32) (s_cache_saws : Int32) (s_cache_hit : Int32) (s_cache_weighed : Int32) (s_past : (Nat → Int32)) (s_v0 : (Nat → Int32)) (s_x : (Nat → Int32)) (v_read : Value) (v_tape : Value) (v_kept : Value) (v_order : Value) (v_plainLine : Value) (v_plainDirty : Value) (v_otherIn : Value) (v_cache_memory : Value) (v_cache_line : Value) (v_cache_at : Value) (v_cache_put : Value) (v_cache_unsure : Value) (v_cache_may : Value) (v_cache_saw : Value) (x : Int32 × Int32 × Int32 × Int32 × Int32 × Int32 × Int32 × Int32 × (Nat → Int32) × (Nat → Int32) × (Nat → Int32)) (hf : fX7_clean s_thrown s_trouble s_where s_acts s_ways s_victims s_backs s_cache_ways s_past s_v0 s_x = some x) (l : Launch) (sz : Nat) : zM l yX7_clean cX7_clean 3 (some .int) { frames := 3, cells := 0, slots := 0, locals := 62 } E [.ref q_this] [(q_this, .inr (6, [.int s_thrown, .int s_trouble, .int s_where, .ref q_cache, v_read, v_tape, .int s_taped, .int s_size, .int s_spot, .int s_sort, .int s_place, .int s_number, .int s_fault, .int s_wrongAt, .long s_letters, .ref q_v0, .ref q_x, .ref q_past, v_kept, .int s_acts, .int s_images, .int s_ways, .int s_victims, .int s_backs, v_order, .int s_ordered, .int s_hitNow, .int s_hitsNow, v_plainLine, v_plainDirty, .int s_plainHit, .int s_plainBack, .int s_fitsNow, .int s_someNow, .int s_everyNow, v_otherIn, .int s_askLeft, .int s_drawn])), (q_cache, .inr (5, [.int s_cache_sets, .int s_cache_ways, .int s_cache_lines, .int s_cache_told, .int s_cache_steps, .int s_cache_unsures, .int s_cache_saws, .int s_cache_hit, .int s_cache_weighed, v_cache_memory, v_cache_line, v_cache_at, v_cache_put, v_cache_unsure, v_cache_may, v_cache_saw])), (q_past, .inl (E.2.1 0, 9744, .inl s_past)), (q_v0, .inl (E.2.1 0, 609, .inl s_v0)), (q_x, .inl (E.2.1 0, 609, .inl s_x))] sz (some (.int x.1)) [(q_this, .inr (6, [.int x.2.1, .int x.2.2.1, .int x.2.2.2.1, .ref q_cache, v_read, v_tape, .int s_taped, .int s_size, .int s_spot, .int s_sort, .int s_place, .int s_number, .int s_fault, .int s_wrongAt, .long s_letters, .ref q_v0, .ref q_x, .ref q_past, v_kept, .int x.2.2.2.2.1, .int s_images, .int x.2.2.2.2.2.1, .int x.2.2.2.2.2.2.1, .int x.2.2.2.2.2.2.2.1, v_order, .int s_ordered, .int s_hitNow, .int s_hitsNow, v_plainLine, v_plainDirty, .int s_plainHit, .int s_plainBack, .int s_fitsNow, .int s_someNow, .int s_everyNow, v_otherIn, .int s_askLeft, .int s_drawn])), (q_cache, .inr (5, [.int s_cache_sets, .int s_cache_ways, .int s_cache_lines, .int s_cache_told, .int s_cache_steps, .int s_cache_unsures, .int s_cache_saws, .int s_cache_hit, .int s_cache_weighed, v_cache_memory, v_cache_line, v_cache_at, v_cache_put, v_cache_unsure, v_cache_may, v_cache_saw])), (q_past, .inl (E.2.1 0, 9744, .inl x.2.2.2.2.2.2.2.2.1)), (q_v0, .inl (E.2.1 0, 609, .inl x.2.2.2.2.2.2.2.2.2.1)), (q_x, .inl (E.2.1 0, 609, .inl x.2.2.2.2.2.2.2.2.2.2))] := by
  refine zEnter (by decide) (Nat.le_of_ble_eq_true rfl) ?_
  intro C hC hR
  change zC C E cX7_clean "PackedCacheModel" 3 _ at hC
  have B64 : ∀ (N : Nat), ∀ (b1 : Int32) (b2 : Int32) (s_thrown : Int32) (s_trouble : Int32) (s_where : Int32) (s_acts : Int32) (s_ways : Int32) (s_victims : Int32) (s_backs : Int32) (s_past : (Nat → Int32)) (s_v0 : (Nat → Int32)) (s_x : (Nat → Int32)), fX7_clean_64 s_cache_ways  N b1 b2 s_thrown s_trouble s_where s_acts s_ways s_victims s_backs s_past s_v0 s_x = some x → J C 0 0 [(q_this, .inr (6, [.int s_thrown, .int s_trouble, .int s_where, .ref q_cache, v_read, v_tape, .int s_taped, .int s_size, .int s_spot, .int s_sort, .int s_place, .int s_number, .int s_fault, .int s_wrongAt, .long s_letters, .ref q_v0, .ref q_x, .ref q_past, v_kept, .int s_acts, .int s_images, .int s_ways, .int s_victims, .int s_backs, v_order, .int s_ordered, .int s_hitNow, .int s_hitsNow, v_plainLine, v_plainDirty, .int s_plainHit, .int s_plainBack, .int s_fitsNow, .int s_someNow, .int s_everyNow, v_otherIn, .int s_askLeft, .int s_drawn])), (q_cache, .inr (5, [.int s_cache_sets, .int s_cache_ways, .int s_cache_lines, .int s_cache_told, .int s_cache_steps, .int s_cache_unsures, .int s_cache_saws, .int s_cache_hit, .int s_cache_weighed, v_cache_memory, v_cache_line, v_cache_at, v_cache_put, v_cache_unsure, v_cache_may, v_cache_saw])), (q_past, .inl (E.2.1 0, 9744, .inl s_past)), (q_v0, .inl (E.2.1 0, 609, .inl s_v0)), (q_x, .inl (E.2.1 0, 609, .inl s_x))] [(0, .ref q_this), (1, .int b1), (2, .int b2)] 64 [] := by
    intro  N
    induction N with
    | zero =>
      intro b1 b2 s_thrown s_trouble s_where s_acts s_ways s_victims s_backs s_past s_v0 s_x hf
      rw [fX7_clean_64] at hf
      cases hf
    | succ m ih =>
      intro b1 b2 s_thrown s_trouble s_where s_acts s_ways s_victims s_backs s_past s_v0 s_x hf
      rw [fX7_clean_64] at hf
      refine j_iload_n (q := 65) hC dX7_clean_64 rfl rfl 2 rfl ?_
      refine j_bipush (q := 67) (v := 32) hC dX7_clean_65 rfl (by decide) ?_
      refine j_icmp_ge (tgt := 82) (q := 70) hC dX7_clean_67 (by decide) rfl hf (fun _ hf => ?_) (fun _ hf => ?_)
      · refine j_aload_n (q := 83) hC dX7_clean_82 rfl rfl 0 rfl ?_
        refine j_iload_n (q := 84) hC dX7_clean_83 rfl rfl 1 rfl ?_
        refine j_callV (q := 87) hC [.int b1] [] (fun x1 : Int32 × Int32 × Int32 × (Nat → Int32) => some (.int x1.1)) (fun x1 => [(q_this, .inr (6, [.int s_thrown, .int x1.2.1, .int x1.2.2.1, .ref q_cache, v_read, v_tape, .int s_taped, .int s_size, .int s_spot, .int s_sort, .int s_place, .int s_number, .int s_fault, .int s_wrongAt, .long s_letters, .ref q_v0, .ref q_x, .ref q_past, v_kept, .int s_acts, .int s_images, .int s_ways, .int s_victims, .int s_backs, v_order, .int s_ordered, .int s_hitNow, .int s_hitsNow, v_plainLine, v_plainDirty, .int s_plainHit, .int s_plainBack, .int s_fitsNow, .int s_someNow, .int s_everyNow, v_otherIn, .int s_askLeft, .int s_drawn])), (q_v0, .inl (E.2.1 0, 609, .inl x1.2.2.2)), (q_x, .inl (E.2.1 0, 609, .inl s_x))]) (fun x1 => [(q_this, .inr (6, [.int s_thrown, .int x1.2.1, .int x1.2.2.1, .ref q_cache, v_read, v_tape, .int s_taped, .int s_size, .int s_spot, .int s_sort, .int s_place, .int s_number, .int s_fault, .int s_wrongAt, .long s_letters, .ref q_v0, .ref q_x, .ref q_past, v_kept, .int s_acts, .int s_images, .int s_ways, .int s_victims, .int s_backs, v_order, .int s_ordered, .int s_hitNow, .int s_hitsNow, v_plainLine, v_plainDirty, .int s_plainHit, .int s_plainBack, .int s_fitsNow, .int s_someNow, .int s_everyNow, v_otherIn, .int s_askLeft, .int s_drawn])), (q_cache, .inr (5, [.int s_cache_sets, .int s_cache_ways, .int s_cache_lines, .int s_cache_told, .int s_cache_steps, .int s_cache_unsures, .int s_cache_saws, .int s_cache_hit, .int s_cache_weighed, v_cache_memory, v_cache_line, v_cache_at, v_cache_put, v_cache_unsure, v_cache_may, v_cache_saw])), (q_past, .inl (E.2.1 0, 9744, .inl s_past)), (q_v0, .inl (E.2.1 0, 609, .inl x1.2.2.2)), (q_x, .inl (E.2.1 0, 609, .inl s_x))]) (fun x1 => [.int x1.1]) [0, 3, 4] [1, 2] hf (fun x1 hx => wX7_done E q_this q_v0 q_x s_thrown s_trouble s_where s_taped s_size s_spot s_sort s_place s_number s_fault s_wrongAt s_letters s_acts s_images s_ways s_victims s_backs s_ordered s_hitNow s_hitsNow s_plainHit s_plainBack s_fitsNow s_someNow s_everyNow s_askLeft s_drawn s_v0 s_x (.ref q_cache) (v_read) (v_tape) (.ref q_past) (v_kept) (v_order) (v_plainLine) (v_plainDirty) (v_otherIn) b1 x1  hx) zy_X7_done zw_1567 (by unfold zRm; decide) rfl rfl (fun _ => rfl) (N := 5) (by decide) (fun _ => ⟨rfl, rfl, rfl⟩) rfl rfl rfl (Nat.le_of_ble_eq_true rfl) dX7_clean_84 rfl rfl (fun _ => rfl) (fun x1 hf => ?_)
        have hx := Option.some.inj hf
        exact j_iret hC hR dX7_clean_87 (by rw [← hx]) (by rw [← hx])
      · refine j_aload_n (q := 71) hC dX7_clean_70 rfl rfl 0 rfl ?_
        refine j_iload_n (q := 72) hC dX7_clean_71 rfl rfl 2 rfl ?_
        refine j_callV (q := 75) hC [.int b2] [] (fun x2 : Int32 × Int32 × (Nat → Int32) => some (.int x2.1)) (fun x2 => [(q_this, .inr (6, [.int s_thrown, .int s_trouble, .int s_where, .ref q_cache, v_read, v_tape, .int s_taped, .int s_size, .int s_spot, .int s_sort, .int s_place, .int s_number, .int s_fault, .int s_wrongAt, .long s_letters, .ref q_v0, .ref q_x, .ref q_past, v_kept, .int s_acts, .int s_images, .int s_ways, .int s_victims, .int x2.2.1, v_order, .int s_ordered, .int s_hitNow, .int s_hitsNow, v_plainLine, v_plainDirty, .int s_plainHit, .int s_plainBack, .int s_fitsNow, .int s_someNow, .int s_everyNow, v_otherIn, .int s_askLeft, .int s_drawn])), (q_x, .inl (E.2.1 0, 609, .inl x2.2.2))]) (fun x2 => [(q_this, .inr (6, [.int s_thrown, .int s_trouble, .int s_where, .ref q_cache, v_read, v_tape, .int s_taped, .int s_size, .int s_spot, .int s_sort, .int s_place, .int s_number, .int s_fault, .int s_wrongAt, .long s_letters, .ref q_v0, .ref q_x, .ref q_past, v_kept, .int s_acts, .int s_images, .int s_ways, .int s_victims, .int x2.2.1, v_order, .int s_ordered, .int s_hitNow, .int s_hitsNow, v_plainLine, v_plainDirty, .int s_plainHit, .int s_plainBack, .int s_fitsNow, .int s_someNow, .int s_everyNow, v_otherIn, .int s_askLeft, .int s_drawn])), (q_cache, .inr (5, [.int s_cache_sets, .int s_cache_ways, .int s_cache_lines, .int s_cache_told, .int s_cache_steps, .int s_cache_unsures, .int s_cache_saws, .int s_cache_hit, .int s_cache_weighed, v_cache_memory, v_cache_line, v_cache_at, v_cache_put, v_cache_unsure, v_cache_may, v_cache_saw])), (q_past, .inl (E.2.1 0, 9744, .inl s_past)), (q_v0, .inl (E.2.1 0, 609, .inl s_v0)), (q_x, .inl (E.2.1 0, 609, .inl x2.2.2))]) (fun x2 => [.int x2.1]) [0, 4] [1, 2, 3] hf (fun x2 hx => wX7_writesBack E q_this q_x s_thrown s_trouble s_where s_taped s_size s_spot s_sort s_place s_number s_fault s_wrongAt s_letters s_acts s_images s_ways s_victims s_backs s_ordered s_hitNow s_hitsNow s_plainHit s_plainBack s_fitsNow s_someNow s_everyNow s_askLeft s_drawn s_x (.ref q_cache) (v_read) (v_tape) (.ref q_v0) (.ref q_past) (v_kept) (v_order) (v_plainLine) (v_plainDirty) (v_otherIn) b2 x2  hx) zy_X7_writesBack zw_1416 (by unfold zRm; decide) rfl rfl (fun _ => rfl) (N := 5) (by decide) (fun _ => ⟨rfl, rfl, rfl⟩) rfl rfl rfl (Nat.le_of_ble_eq_true rfl) dX7_clean_72 rfl rfl (fun _ => rfl) (fun x2 hf => ?_)
        refine j_pop (q := 76) hC dX7_clean_75 rfl rfl ?_
        refine j_iinc (q := 79) (v := 1) hC (fun x3 => [(2, .int x3), (0, .ref q_this), (1, .int b1)]) dX7_clean_76 rfl 2 rfl (by decide) (by decide) (fun _ => rfl) hf (fun x3 hf => ?_)
        refine j_goto (tgt := 64) hC dX7_clean_79 (by decide) ?_
        refine j_sub (lv' := [(0, .ref q_this), (1, .int b1), (2, .int x3)]) [1, 2, 0] rfl ?_
        exact ih b1 x3 s_thrown s_trouble s_where s_acts s_ways s_victims x2.2.1 s_past s_v0 x2.2.2 hf
  have B24 : ∀ (N : Nat), ∀ (b1 : Int32) (s_thrown : Int32) (s_trouble : Int32) (s_where : Int32) (s_acts : Int32) (s_ways : Int32) (s_victims : Int32) (s_backs : Int32) (s_past : (Nat → Int32)) (s_v0 : (Nat → Int32)) (s_x : (Nat → Int32)), fX7_clean_24 s_cache_ways  N b1 s_thrown s_trouble s_where s_acts s_ways s_victims s_backs s_past s_v0 s_x = some x → J C 0 0 [(q_this, .inr (6, [.int s_thrown, .int s_trouble, .int s_where, .ref q_cache, v_read, v_tape, .int s_taped, .int s_size, .int s_spot, .int s_sort, .int s_place, .int s_number, .int s_fault, .int s_wrongAt, .long s_letters, .ref q_v0, .ref q_x, .ref q_past, v_kept, .int s_acts, .int s_images, .int s_ways, .int s_victims, .int s_backs, v_order, .int s_ordered, .int s_hitNow, .int s_hitsNow, v_plainLine, v_plainDirty, .int s_plainHit, .int s_plainBack, .int s_fitsNow, .int s_someNow, .int s_everyNow, v_otherIn, .int s_askLeft, .int s_drawn])), (q_cache, .inr (5, [.int s_cache_sets, .int s_cache_ways, .int s_cache_lines, .int s_cache_told, .int s_cache_steps, .int s_cache_unsures, .int s_cache_saws, .int s_cache_hit, .int s_cache_weighed, v_cache_memory, v_cache_line, v_cache_at, v_cache_put, v_cache_unsure, v_cache_may, v_cache_saw])), (q_past, .inl (E.2.1 0, 9744, .inl s_past)), (q_v0, .inl (E.2.1 0, 609, .inl s_v0)), (q_x, .inl (E.2.1 0, 609, .inl s_x))] [(0, .ref q_this), (1, .int b1)] 24 [] := by
    intro  N
    induction N with
    | zero =>
      intro b1 s_thrown s_trouble s_where s_acts s_ways s_victims s_backs s_past s_v0 s_x hf
      rw [fX7_clean_24] at hf
      cases hf
    | succ m ih =>
      intro b1 s_thrown s_trouble s_where s_acts s_ways s_victims s_backs s_past s_v0 s_x hf
      rw [fX7_clean_24] at hf
      refine j_iload_n (q := 25) hC dX7_clean_24 rfl rfl 1 rfl ?_
      refine j_bipush (q := 27) (v := 32) hC dX7_clean_25 rfl (by decide) ?_
      refine j_icmp_ge (tgt := 42) (q := 30) hC dX7_clean_27 (by decide) rfl hf (fun _ hf => ?_) (fun _ hf => ?_)
      · refine j_aload_n (q := 43) hC dX7_clean_42 rfl rfl 0 rfl ?_
        refine j_get (q := 46) hC zcl_X7 0 23 zw_924 ⟨rfl, rfl, by decide⟩ rfl rfl dX7_clean_43 rfl ?_
        refine j_istore_n (q := 47) (lv' := [(1, .int s_backs), (0, .ref q_this)]) hC dX7_clean_46 rfl rfl (by decide) rfl ?_
        refine j_iload_n (q := 48) hC dX7_clean_47 rfl rfl 0 rfl ?_
        refine j_if_ne (tgt := 58) (q := 51) hC dX7_clean_48 (by decide) rfl hf (fun _ hf => ?_) (fun _ hf => ?_)
        · refine j_aload_n (q := 59) hC dX7_clean_58 rfl rfl 1 rfl ?_
          refine j_callV (q := 62) hC [] [] (fun x1 : Int32 × Int32 × Int32 × Int32 × (Nat → Int32) × (Nat → Int32) => none) (fun x1 => [(q_this, .inr (6, [.int s_thrown, .int s_trouble, .int s_where, .ref q_cache, v_read, v_tape, .int s_taped, .int s_size, .int s_spot, .int s_sort, .int s_place, .int s_number, .int s_fault, .int s_wrongAt, .long s_letters, .ref q_v0, .ref q_x, .ref q_past, v_kept, .int x1.1, .int s_images, .int x1.2.1, .int x1.2.2.1, .int x1.2.2.2.1, v_order, .int s_ordered, .int s_hitNow, .int s_hitsNow, v_plainLine, v_plainDirty, .int s_plainHit, .int s_plainBack, .int s_fitsNow, .int s_someNow, .int s_everyNow, v_otherIn, .int s_askLeft, .int s_drawn])), (q_cache, .inr (5, [.int s_cache_sets, .int s_cache_ways, .int s_cache_lines, .int s_cache_told, .int s_cache_steps, .int s_cache_unsures, .int s_cache_saws, .int s_cache_hit, .int s_cache_weighed, v_cache_memory, v_cache_line, v_cache_at, v_cache_put, v_cache_unsure, v_cache_may, v_cache_saw])), (q_past, .inl (E.2.1 0, 9744, .inl x1.2.2.2.2.1)), (q_v0, .inl (E.2.1 0, 609, .inl s_v0)), (q_x, .inl (E.2.1 0, 609, .inl x1.2.2.2.2.2))]) (fun x1 => [(q_this, .inr (6, [.int s_thrown, .int s_trouble, .int s_where, .ref q_cache, v_read, v_tape, .int s_taped, .int s_size, .int s_spot, .int s_sort, .int s_place, .int s_number, .int s_fault, .int s_wrongAt, .long s_letters, .ref q_v0, .ref q_x, .ref q_past, v_kept, .int x1.1, .int s_images, .int x1.2.1, .int x1.2.2.1, .int x1.2.2.2.1, v_order, .int s_ordered, .int s_hitNow, .int s_hitsNow, v_plainLine, v_plainDirty, .int s_plainHit, .int s_plainBack, .int s_fitsNow, .int s_someNow, .int s_everyNow, v_otherIn, .int s_askLeft, .int s_drawn])), (q_cache, .inr (5, [.int s_cache_sets, .int s_cache_ways, .int s_cache_lines, .int s_cache_told, .int s_cache_steps, .int s_cache_unsures, .int s_cache_saws, .int s_cache_hit, .int s_cache_weighed, v_cache_memory, v_cache_line, v_cache_at, v_cache_put, v_cache_unsure, v_cache_may, v_cache_saw])), (q_past, .inl (E.2.1 0, 9744, .inl x1.2.2.2.2.1)), (q_v0, .inl (E.2.1 0, 609, .inl s_v0)), (q_x, .inl (E.2.1 0, 609, .inl x1.2.2.2.2.2))]) (fun x1 => []) [0, 1, 2, 3, 4] [] hf (fun x1 hx => wX7_remembers E q_this q_cache q_past q_v0 q_x s_thrown s_trouble s_where s_taped s_size s_spot s_sort s_place s_number s_fault s_wrongAt s_letters s_acts s_images s_ways s_victims s_backs s_ordered s_hitNow s_hitsNow s_plainHit s_plainBack s_fitsNow s_someNow s_everyNow s_askLeft s_drawn s_cache_sets s_cache_ways s_cache_lines s_cache_told s_cache_steps s_cache_unsures s_cache_saws s_cache_hit s_cache_weighed s_past s_v0 s_x (v_read) (v_tape) (v_kept) (v_order) (v_plainLine) (v_plainDirty) (v_otherIn) (v_cache_memory) (v_cache_line) (v_cache_at) (v_cache_put) (v_cache_unsure) (v_cache_may) (v_cache_saw) x1  hx) zy_X7_remembers zw_1563 (by unfold zRm; decide) rfl rfl (fun _ => rfl) (N := 5) (by decide) (fun _ => ⟨rfl, rfl, rfl⟩) rfl rfl rfl (Nat.le_of_ble_eq_true rfl) dX7_clean_59 rfl rfl (fun _ => rfl) (fun x1 hf => ?_)
          refine j_iconst (q := 63) (v := 0) hC dX7_clean_62 rfl (by decide) ?_
          refine j_istore_n (q := 64) (lv' := [(2, .int 0), (1, .int s_backs), (0, .ref q_this)]) hC dX7_clean_63 rfl rfl (by decide) rfl ?_
          refine j_sub (lv' := [(0, .ref q_this), (1, .int s_backs), (2, .int 0)]) [2, 1, 0] rfl ?_
          exact B64  zF s_backs 0 s_thrown s_trouble s_where x1.1 x1.2.1 x1.2.2.1 x1.2.2.2.1 x1.2.2.2.2.1 s_v0 x1.2.2.2.2.2 hf
        · refine j_aload_n (q := 52) hC dX7_clean_51 rfl rfl 1 rfl ?_
          refine j_bipush (q := 54) (v := 6) hC dX7_clean_52 rfl (by decide) ?_
          refine j_callV (q := 57) hC [.int 6] [] (fun x2 : Int32 × Int32 × Int32 => some (.int x2.1)) (fun x2 => [(q_this, .inr (6, [.int s_thrown, .int x2.2.1, .int x2.2.2, .ref q_cache, v_read, v_tape, .int s_taped, .int s_size, .int s_spot, .int s_sort, .int s_place, .int s_number, .int s_fault, .int s_wrongAt, .long s_letters, .ref q_v0, .ref q_x, .ref q_past, v_kept, .int s_acts, .int s_images, .int s_ways, .int s_victims, .int s_backs, v_order, .int s_ordered, .int s_hitNow, .int s_hitsNow, v_plainLine, v_plainDirty, .int s_plainHit, .int s_plainBack, .int s_fitsNow, .int s_someNow, .int s_everyNow, v_otherIn, .int s_askLeft, .int s_drawn]))]) (fun x2 => [(q_this, .inr (6, [.int s_thrown, .int x2.2.1, .int x2.2.2, .ref q_cache, v_read, v_tape, .int s_taped, .int s_size, .int s_spot, .int s_sort, .int s_place, .int s_number, .int s_fault, .int s_wrongAt, .long s_letters, .ref q_v0, .ref q_x, .ref q_past, v_kept, .int s_acts, .int s_images, .int s_ways, .int s_victims, .int s_backs, v_order, .int s_ordered, .int s_hitNow, .int s_hitsNow, v_plainLine, v_plainDirty, .int s_plainHit, .int s_plainBack, .int s_fitsNow, .int s_someNow, .int s_everyNow, v_otherIn, .int s_askLeft, .int s_drawn])), (q_cache, .inr (5, [.int s_cache_sets, .int s_cache_ways, .int s_cache_lines, .int s_cache_told, .int s_cache_steps, .int s_cache_unsures, .int s_cache_saws, .int s_cache_hit, .int s_cache_weighed, v_cache_memory, v_cache_line, v_cache_at, v_cache_put, v_cache_unsure, v_cache_may, v_cache_saw])), (q_past, .inl (E.2.1 0, 9744, .inl s_past)), (q_v0, .inl (E.2.1 0, 609, .inl s_v0)), (q_x, .inl (E.2.1 0, 609, .inl s_x))]) (fun x2 => [.int x2.1]) [0] [1, 2, 3, 4] hf (fun x2 hx => wX7_refused E q_this s_thrown s_trouble s_where s_taped s_size s_spot s_sort s_place s_number s_fault s_wrongAt s_letters s_acts s_images s_ways s_victims s_backs s_ordered s_hitNow s_hitsNow s_plainHit s_plainBack s_fitsNow s_someNow s_everyNow s_askLeft s_drawn (.ref q_cache) (v_read) (v_tape) (.ref q_v0) (.ref q_x) (.ref q_past) (v_kept) (v_order) (v_plainLine) (v_plainDirty) (v_otherIn) 6 x2  hx) zy_X7_refused zw_1029 (by unfold zRm; decide) rfl rfl (fun _ => rfl) (N := 5) (by decide) (fun _ => ⟨rfl, rfl, rfl⟩) rfl rfl rfl (Nat.le_of_ble_eq_true rfl) dX7_clean_54 rfl rfl (fun _ => rfl) (fun x2 hf => ?_)
          have hx := Option.some.inj hf
          exact j_iret hC hR dX7_clean_57 (by rw [← hx]) (by rw [← hx])
      · refine j_aload_n (q := 31) hC dX7_clean_30 rfl rfl 0 rfl ?_
        refine j_iload_n (q := 32) hC dX7_clean_31 rfl rfl 1 rfl ?_
        refine j_callV (q := 35) hC [.int b1] [] (fun x3 : Int32 × Int32 × (Nat → Int32) => some (.int x3.1)) (fun x3 => [(q_this, .inr (6, [.int s_thrown, .int s_trouble, .int s_where, .ref q_cache, v_read, v_tape, .int s_taped, .int s_size, .int s_spot, .int s_sort, .int s_place, .int s_number, .int s_fault, .int s_wrongAt, .long s_letters, .ref q_v0, .ref q_x, .ref q_past, v_kept, .int s_acts, .int s_images, .int s_ways, .int s_victims, .int x3.2.1, v_order, .int s_ordered, .int s_hitNow, .int s_hitsNow, v_plainLine, v_plainDirty, .int s_plainHit, .int s_plainBack, .int s_fitsNow, .int s_someNow, .int s_everyNow, v_otherIn, .int s_askLeft, .int s_drawn])), (q_x, .inl (E.2.1 0, 609, .inl x3.2.2))]) (fun x3 => [(q_this, .inr (6, [.int s_thrown, .int s_trouble, .int s_where, .ref q_cache, v_read, v_tape, .int s_taped, .int s_size, .int s_spot, .int s_sort, .int s_place, .int s_number, .int s_fault, .int s_wrongAt, .long s_letters, .ref q_v0, .ref q_x, .ref q_past, v_kept, .int s_acts, .int s_images, .int s_ways, .int s_victims, .int x3.2.1, v_order, .int s_ordered, .int s_hitNow, .int s_hitsNow, v_plainLine, v_plainDirty, .int s_plainHit, .int s_plainBack, .int s_fitsNow, .int s_someNow, .int s_everyNow, v_otherIn, .int s_askLeft, .int s_drawn])), (q_cache, .inr (5, [.int s_cache_sets, .int s_cache_ways, .int s_cache_lines, .int s_cache_told, .int s_cache_steps, .int s_cache_unsures, .int s_cache_saws, .int s_cache_hit, .int s_cache_weighed, v_cache_memory, v_cache_line, v_cache_at, v_cache_put, v_cache_unsure, v_cache_may, v_cache_saw])), (q_past, .inl (E.2.1 0, 9744, .inl s_past)), (q_v0, .inl (E.2.1 0, 609, .inl s_v0)), (q_x, .inl (E.2.1 0, 609, .inl x3.2.2))]) (fun x3 => [.int x3.1]) [0, 4] [1, 2, 3] hf (fun x3 hx => wX7_writesBack E q_this q_x s_thrown s_trouble s_where s_taped s_size s_spot s_sort s_place s_number s_fault s_wrongAt s_letters s_acts s_images s_ways s_victims s_backs s_ordered s_hitNow s_hitsNow s_plainHit s_plainBack s_fitsNow s_someNow s_everyNow s_askLeft s_drawn s_x (.ref q_cache) (v_read) (v_tape) (.ref q_v0) (.ref q_past) (v_kept) (v_order) (v_plainLine) (v_plainDirty) (v_otherIn) b1 x3  hx) zy_X7_writesBack zw_1416 (by unfold zRm; decide) rfl rfl (fun _ => rfl) (N := 5) (by decide) (fun _ => ⟨rfl, rfl, rfl⟩) rfl rfl rfl (Nat.le_of_ble_eq_true rfl) dX7_clean_32 rfl rfl (fun _ => rfl) (fun x3 hf => ?_)
        refine j_pop (q := 36) hC dX7_clean_35 rfl rfl ?_
        refine j_iinc (q := 39) (v := 1) hC (fun x4 => [(1, .int x4), (0, .ref q_this)]) dX7_clean_36 rfl 1 rfl (by decide) (by decide) (fun _ => rfl) hf (fun x4 hf => ?_)
        refine j_goto (tgt := 24) hC dX7_clean_39 (by decide) ?_
        refine j_sub (lv' := [(0, .ref q_this), (1, .int x4)]) [1, 0] rfl ?_
        exact ih x4 s_thrown s_trouble s_where s_acts s_ways s_victims x3.2.1 s_past s_v0 x3.2.2 hf
  unfold fX7_clean at hf
  refine j_sub (lv' := [(0, .ref q_this)]) [0] rfl ?_
  refine j_aload_n (q := 1) hC dX7_clean_0 rfl rfl 0 rfl ?_
  refine j_iconst (q := 2) (v := 0) hC dX7_clean_1 rfl (by decide) ?_
  refine j_put (q := 5) (host := "") hC zcl_X7 0 0 (ws' := [(q_this, .inr (6, [.int 0, .int s_trouble, .int s_where, .ref q_cache, v_read, v_tape, .int s_taped, .int s_size, .int s_spot, .int s_sort, .int s_place, .int s_number, .int s_fault, .int s_wrongAt, .long s_letters, .ref q_v0, .ref q_x, .ref q_past, v_kept, .int s_acts, .int s_images, .int s_ways, .int s_victims, .int s_backs, v_order, .int s_ordered, .int s_hitNow, .int s_hitsNow, v_plainLine, v_plainDirty, .int s_plainHit, .int s_plainBack, .int s_fitsNow, .int s_someNow, .int s_everyNow, v_otherIn, .int s_askLeft, .int s_drawn])), (q_cache, .inr (5, [.int s_cache_sets, .int s_cache_ways, .int s_cache_lines, .int s_cache_told, .int s_cache_steps, .int s_cache_unsures, .int s_cache_saws, .int s_cache_hit, .int s_cache_weighed, v_cache_memory, v_cache_line, v_cache_at, v_cache_put, v_cache_unsure, v_cache_may, v_cache_saw])), (q_past, .inl (E.2.1 0, 9744, .inl s_past)), (q_v0, .inl (E.2.1 0, 609, .inl s_v0)), (q_x, .inl (E.2.1 0, 609, .inl s_x))]) zw_901 ⟨rfl, rfl, by decide, rfl⟩ rfl rfl rfl (Nat.le_of_ble_eq_true rfl) rfl dX7_clean_2 rfl ?_
  refine j_aload_n (q := 6) hC dX7_clean_5 rfl rfl 0 rfl ?_
  refine j_get (q := 9) hC zcl_X7 0 3 zw_904 ⟨rfl, rfl, by decide⟩ rfl rfl dX7_clean_6 rfl ?_
  refine j_ifnonnull (tgt := 18) hC dX7_clean_9 (by decide) ?_
  refine j_aload_n (q := 19) hC dX7_clean_18 rfl rfl 0 rfl ?_
  refine j_callV (q := 22) hC [] [] (fun x1 : Int32 × Int32 × Int32 × (Nat → Int32) => none) (fun x1 => [(q_this, .inr (6, [.int 0, .int s_trouble, .int s_where, .ref q_cache, v_read, v_tape, .int s_taped, .int s_size, .int s_spot, .int s_sort, .int s_place, .int s_number, .int s_fault, .int s_wrongAt, .long s_letters, .ref q_v0, .ref q_x, .ref q_past, v_kept, .int s_acts, .int s_images, .int x1.1, .int x1.2.1, .int x1.2.2.1, v_order, .int s_ordered, .int s_hitNow, .int s_hitsNow, v_plainLine, v_plainDirty, .int s_plainHit, .int s_plainBack, .int s_fitsNow, .int s_someNow, .int s_everyNow, v_otherIn, .int s_askLeft, .int s_drawn])), (q_cache, .inr (5, [.int s_cache_sets, .int s_cache_ways, .int s_cache_lines, .int s_cache_told, .int s_cache_steps, .int s_cache_unsures, .int s_cache_saws, .int s_cache_hit, .int s_cache_weighed, v_cache_memory, v_cache_line, v_cache_at, v_cache_put, v_cache_unsure, v_cache_may, v_cache_saw])), (q_v0, .inl (E.2.1 0, 609, .inl s_v0)), (q_x, .inl (E.2.1 0, 609, .inl x1.2.2.2))]) (fun x1 => [(q_this, .inr (6, [.int 0, .int s_trouble, .int s_where, .ref q_cache, v_read, v_tape, .int s_taped, .int s_size, .int s_spot, .int s_sort, .int s_place, .int s_number, .int s_fault, .int s_wrongAt, .long s_letters, .ref q_v0, .ref q_x, .ref q_past, v_kept, .int s_acts, .int s_images, .int x1.1, .int x1.2.1, .int x1.2.2.1, v_order, .int s_ordered, .int s_hitNow, .int s_hitsNow, v_plainLine, v_plainDirty, .int s_plainHit, .int s_plainBack, .int s_fitsNow, .int s_someNow, .int s_everyNow, v_otherIn, .int s_askLeft, .int s_drawn])), (q_cache, .inr (5, [.int s_cache_sets, .int s_cache_ways, .int s_cache_lines, .int s_cache_told, .int s_cache_steps, .int s_cache_unsures, .int s_cache_saws, .int s_cache_hit, .int s_cache_weighed, v_cache_memory, v_cache_line, v_cache_at, v_cache_put, v_cache_unsure, v_cache_may, v_cache_saw])), (q_past, .inl (E.2.1 0, 9744, .inl s_past)), (q_v0, .inl (E.2.1 0, 609, .inl s_v0)), (q_x, .inl (E.2.1 0, 609, .inl x1.2.2.2))]) (fun x1 => []) [0, 1, 3, 4] [2] hf (fun x1 hx => wX7_works E q_this q_cache q_v0 q_x 0 s_trouble s_where s_taped s_size s_spot s_sort s_place s_number s_fault s_wrongAt s_letters s_acts s_images s_ways s_victims s_backs s_ordered s_hitNow s_hitsNow s_plainHit s_plainBack s_fitsNow s_someNow s_everyNow s_askLeft s_drawn s_cache_sets s_cache_ways s_cache_lines s_cache_told s_cache_steps s_cache_unsures s_cache_saws s_cache_hit s_cache_weighed s_v0 s_x (v_read) (v_tape) (.ref q_past) (v_kept) (v_order) (v_plainLine) (v_plainDirty) (v_otherIn) (v_cache_memory) (v_cache_line) (v_cache_at) (v_cache_put) (v_cache_unsure) (v_cache_may) (v_cache_saw) x1  hx) zy_X7_works zw_1233 (by unfold zRm; decide) rfl rfl (fun _ => rfl) (N := 5) (by decide) (fun _ => ⟨rfl, rfl, rfl⟩) rfl rfl rfl (Nat.le_of_ble_eq_true rfl) dX7_clean_19 rfl rfl (fun _ => rfl) (fun x1 hf => ?_)
  refine j_iconst (q := 23) (v := 0) hC dX7_clean_22 rfl (by decide) ?_
  refine j_istore_n (q := 24) (lv' := [(1, .int 0), (0, .ref q_this)]) hC dX7_clean_23 rfl rfl (by decide) rfl ?_
  refine j_sub (lv' := [(0, .ref q_this), (1, .int 0)]) [1, 0] rfl ?_
  exact B24  zF 0 0 s_trouble s_where s_acts x1.1 x1.2.1 x1.2.2.1 s_past s_v0 x1.2.2.2 hf
noncomputable def fX7_undo_38 (s_past : (Nat → Int32))  : Nat → Int32 → Int32 → Int32 → Int32 → Int32 → (Nat → Int32) → Option (Int32 × Int32 × Int32 × Int32 × Int32 × (Nat → Int32))
  | 0, _, _, _, _, _, _ => none
  | m + 1, b1, s_thrown, s_trouble, s_where, s_acts, s_v0 =>
    if 609 ≤ b1 then ((fX7_granted s_trouble s_where).bind fun x1 =>
    zbl x1.1 (some (x1.1, s_thrown, x1.2.1, x1.2.2, s_acts, s_v0)))
    else (zlet (609 * s_acts : Int32) fun x2 =>
    zlet (x2 + b1 : Int32) fun x3 =>
    zald s_past 9744 x3 fun x4 =>
    zast s_v0 609 b1 x4 fun x5 =>
    zlet (b1 + 1) fun x6 =>
    fX7_undo_38 s_past  m x6 s_thrown s_trouble s_where s_acts x5)
noncomputable def fX7_undo (s_thrown : Int32) (s_trouble : Int32) (s_where : Int32) (s_acts : Int32) (s_past : (Nat → Int32)) (s_v0 : (Nat → Int32)) : Option (Int32 × Int32 × Int32 × Int32 × Int32 × (Nat → Int32)) :=
  if s_acts = 0 then ((fX7_denied s_trouble s_where 6).bind fun x2 =>
    zbl x2.1 (some (x2.1, 0, x2.2.1, x2.2.2, s_acts, s_v0)))
    else (zlet (s_acts - 1 : Int32) fun x1 =>
    fX7_undo_38 s_past  zF 0 0 s_trouble s_where x1 s_v0)
set_option maxHeartbeats 4000000 in
set_option maxRecDepth 100000 in
theorem wX7_undo (E : zE) (q_this : Nat) (q_cache : Nat) (q_past : Nat) (q_v0 : Nat) (s_thrown : Int32) (s_trouble : Int32) (s_where : Int32) (s_taped : Int32) (s_size : Int32) (s_spot : Int32) (s_sort : Int32) (s_place : Int32) (s_number : Int32) (s_fault : Int32) (s_wrongAt : Int32) (s_letters : Int64) (s_acts : Int32) (s_images : Int32) (s_ways : Int32) (s_victims : Int32) (s_backs : Int32) (s_ordered : Int32) (s_hitNow : Int32) (s_hitsNow : Int32) (s_plainHit : Int32) (s_plainBack : Int32) (s_fitsNow : Int32) (s_someNow : Int32) (s_everyNow : Int32) (s_askLeft : Int32) (s_drawn : Int32) (s_past : (Nat → Int32)) (s_v0 : (Nat → Int32)) (v_read : Value) (v_tape : Value) (v_x : Value) (v_kept : Value) (v_order : Value) (v_plainLine : Value) (v_plainDirty : Value) (v_otherIn : Value) (x : Int32 × Int32 × Int32 × Int32 × Int32 × (Nat → Int32)) (hf : fX7_undo s_thrown s_trouble s_where s_acts s_past s_v0 = some x) (l : Launch) (sz : Nat) : zM l yX7_undo cX7_undo 2 (some .boolean) { frames := 2, cells := 0, slots := 0, locals := 42 } E [.ref q_this] [(q_this, .inr (6, [.int s_thrown, .int s_trouble, .int s_where, .ref q_cache, v_read, v_tape, .int s_taped, .int s_size, .int s_spot, .int s_sort, .int s_place, .int s_number, .int s_fault, .int s_wrongAt, .long s_letters, .ref q_v0, v_x, .ref q_past, v_kept, .int s_acts, .int s_images, .int s_ways, .int s_victims, .int s_backs, v_order, .int s_ordered, .int s_hitNow, .int s_hitsNow, v_plainLine, v_plainDirty, .int s_plainHit, .int s_plainBack, .int s_fitsNow, .int s_someNow, .int s_everyNow, v_otherIn, .int s_askLeft, .int s_drawn])), (q_past, .inl (E.2.1 0, 9744, .inl s_past)), (q_v0, .inl (E.2.1 0, 609, .inl s_v0))] sz (some (.int x.1)) [(q_this, .inr (6, [.int x.2.1, .int x.2.2.1, .int x.2.2.2.1, .ref q_cache, v_read, v_tape, .int s_taped, .int s_size, .int s_spot, .int s_sort, .int s_place, .int s_number, .int s_fault, .int s_wrongAt, .long s_letters, .ref q_v0, v_x, .ref q_past, v_kept, .int x.2.2.2.2.1, .int s_images, .int s_ways, .int s_victims, .int s_backs, v_order, .int s_ordered, .int s_hitNow, .int s_hitsNow, v_plainLine, v_plainDirty, .int s_plainHit, .int s_plainBack, .int s_fitsNow, .int s_someNow, .int s_everyNow, v_otherIn, .int s_askLeft, .int s_drawn])), (q_past, .inl (E.2.1 0, 9744, .inl s_past)), (q_v0, .inl (E.2.1 0, 609, .inl x.2.2.2.2.2))] := by
  refine zEnter (by decide) (Nat.le_of_ble_eq_true rfl) ?_
  intro C hC hR
  change zC C E cX7_undo "PackedCacheModel" 2 _ at hC
  have B38 : ∀ (N : Nat), ∀ (b1 : Int32) (s_thrown : Int32) (s_trouble : Int32) (s_where : Int32) (s_acts : Int32) (s_v0 : (Nat → Int32)), fX7_undo_38 s_past  N b1 s_thrown s_trouble s_where s_acts s_v0 = some x → J C 0 0 [(q_this, .inr (6, [.int s_thrown, .int s_trouble, .int s_where, .ref q_cache, v_read, v_tape, .int s_taped, .int s_size, .int s_spot, .int s_sort, .int s_place, .int s_number, .int s_fault, .int s_wrongAt, .long s_letters, .ref q_v0, v_x, .ref q_past, v_kept, .int s_acts, .int s_images, .int s_ways, .int s_victims, .int s_backs, v_order, .int s_ordered, .int s_hitNow, .int s_hitsNow, v_plainLine, v_plainDirty, .int s_plainHit, .int s_plainBack, .int s_fitsNow, .int s_someNow, .int s_everyNow, v_otherIn, .int s_askLeft, .int s_drawn])), (q_past, .inl (E.2.1 0, 9744, .inl s_past)), (q_v0, .inl (E.2.1 0, 609, .inl s_v0))] [(0, .ref q_this), (1, .int b1)] 38 [] := by
    intro  N
    induction N with
    | zero =>
      intro b1 s_thrown s_trouble s_where s_acts s_v0 hf
      rw [fX7_undo_38] at hf
      cases hf
    | succ m ih =>
      intro b1 s_thrown s_trouble s_where s_acts s_v0 hf
      rw [fX7_undo_38] at hf
      refine j_iload_n (q := 39) hC dX7_undo_38 rfl rfl 1 rfl ?_
      refine j_sipush (q := 42) (v := 609) hC dX7_undo_39 rfl (by decide) ?_
      refine j_icmp_ge (tgt := 72) (q := 45) hC dX7_undo_42 (by decide) rfl hf (fun _ hf => ?_) (fun _ hf => ?_)
      · refine j_aload_n (q := 73) hC dX7_undo_72 rfl rfl 0 rfl ?_
        refine j_callV (q := 76) hC [] [] (fun x1 : Int32 × Int32 × Int32 => some (.int x1.1)) (fun x1 => [(q_this, .inr (6, [.int s_thrown, .int x1.2.1, .int x1.2.2, .ref q_cache, v_read, v_tape, .int s_taped, .int s_size, .int s_spot, .int s_sort, .int s_place, .int s_number, .int s_fault, .int s_wrongAt, .long s_letters, .ref q_v0, v_x, .ref q_past, v_kept, .int s_acts, .int s_images, .int s_ways, .int s_victims, .int s_backs, v_order, .int s_ordered, .int s_hitNow, .int s_hitsNow, v_plainLine, v_plainDirty, .int s_plainHit, .int s_plainBack, .int s_fitsNow, .int s_someNow, .int s_everyNow, v_otherIn, .int s_askLeft, .int s_drawn]))]) (fun x1 => [(q_this, .inr (6, [.int s_thrown, .int x1.2.1, .int x1.2.2, .ref q_cache, v_read, v_tape, .int s_taped, .int s_size, .int s_spot, .int s_sort, .int s_place, .int s_number, .int s_fault, .int s_wrongAt, .long s_letters, .ref q_v0, v_x, .ref q_past, v_kept, .int s_acts, .int s_images, .int s_ways, .int s_victims, .int s_backs, v_order, .int s_ordered, .int s_hitNow, .int s_hitsNow, v_plainLine, v_plainDirty, .int s_plainHit, .int s_plainBack, .int s_fitsNow, .int s_someNow, .int s_everyNow, v_otherIn, .int s_askLeft, .int s_drawn])), (q_past, .inl (E.2.1 0, 9744, .inl s_past)), (q_v0, .inl (E.2.1 0, 609, .inl s_v0))]) (fun x1 => [.int x1.1]) [0] [1, 2] hf (fun x1 hx => wX7_granted E q_this s_thrown s_trouble s_where s_taped s_size s_spot s_sort s_place s_number s_fault s_wrongAt s_letters s_acts s_images s_ways s_victims s_backs s_ordered s_hitNow s_hitsNow s_plainHit s_plainBack s_fitsNow s_someNow s_everyNow s_askLeft s_drawn (.ref q_cache) (v_read) (v_tape) (.ref q_v0) (v_x) (.ref q_past) (v_kept) (v_order) (v_plainLine) (v_plainDirty) (v_otherIn) x1  hx) zy_X7_granted zw_1591 (by unfold zRm; decide) rfl rfl (fun _ => rfl) (N := 3) (by decide) (fun _ => ⟨rfl, rfl, rfl⟩) rfl rfl rfl (Nat.le_of_ble_eq_true rfl) dX7_undo_73 rfl rfl (fun _ => rfl) (fun x1 hf => ?_)
        obtain ⟨hz, hf⟩ := zbl_s hf
        have hx := Option.some.inj hf
        exact j_zret hC hR (zbl_n hz) dX7_undo_76 (by rw [← hx]) (by rw [← hx])
      · refine j_aload_n (q := 46) hC dX7_undo_45 rfl rfl 0 rfl ?_
        refine j_get (q := 49) hC zcl_X7 0 15 zw_916 ⟨rfl, rfl, by decide⟩ rfl rfl dX7_undo_46 rfl ?_
        refine j_iload_n (q := 50) hC dX7_undo_49 rfl rfl 1 rfl ?_
        refine j_aload_n (q := 51) hC dX7_undo_50 rfl rfl 0 rfl ?_
        refine j_get (q := 54) hC zcl_X7 0 17 zw_918 ⟨rfl, rfl, by decide⟩ rfl rfl dX7_undo_51 rfl ?_
        refine j_sipush (q := 57) (v := 609) hC dX7_undo_54 rfl (by decide) ?_
        refine j_aload_n (q := 58) hC dX7_undo_57 rfl rfl 0 rfl ?_
        refine j_get (q := 61) hC zcl_X7 0 19 zw_920 ⟨rfl, rfl, by decide⟩ rfl rfl dX7_undo_58 rfl ?_
        refine j_imul (q := 62) hC dX7_undo_61 rfl hf (fun x2 hf => ?_)
        refine j_iload_n (q := 63) hC dX7_undo_62 rfl rfl 1 rfl ?_
        refine j_iadd (q := 64) hC dX7_undo_63 rfl hf (fun x3 hf => ?_)
        refine j_iald (q := 65) hC 1 rfl dX7_undo_64 rfl hf (fun x4 hf => ?_)
        refine j_iast (q := 66) hC (fun x5 => [(q_this, .inr (6, [.int s_thrown, .int s_trouble, .int s_where, .ref q_cache, v_read, v_tape, .int s_taped, .int s_size, .int s_spot, .int s_sort, .int s_place, .int s_number, .int s_fault, .int s_wrongAt, .long s_letters, .ref q_v0, v_x, .ref q_past, v_kept, .int s_acts, .int s_images, .int s_ways, .int s_victims, .int s_backs, v_order, .int s_ordered, .int s_hitNow, .int s_hitsNow, v_plainLine, v_plainDirty, .int s_plainHit, .int s_plainBack, .int s_fitsNow, .int s_someNow, .int s_everyNow, v_otherIn, .int s_askLeft, .int s_drawn])), (q_past, .inl (E.2.1 0, 9744, .inl s_past)), (q_v0, .inl (E.2.1 0, 609, .inl x5))]) 2 rfl (fun _ => rfl) dX7_undo_65 rfl hf (fun x5 hf => ?_)
        refine j_iinc (q := 69) (v := 1) hC (fun x6 => [(1, .int x6), (0, .ref q_this)]) dX7_undo_66 rfl 1 rfl (by decide) (by decide) (fun _ => rfl) hf (fun x6 hf => ?_)
        refine j_goto (tgt := 38) hC dX7_undo_69 (by decide) ?_
        refine j_sub (lv' := [(0, .ref q_this), (1, .int x6)]) [1, 0] rfl ?_
        exact ih x6 s_thrown s_trouble s_where s_acts x5 hf
  unfold fX7_undo at hf
  refine j_sub (lv' := [(0, .ref q_this)]) [0] rfl ?_
  refine j_aload_n (q := 1) hC dX7_undo_0 rfl rfl 0 rfl ?_
  refine j_iconst (q := 2) (v := 0) hC dX7_undo_1 rfl (by decide) ?_
  refine j_put (q := 5) (host := "") hC zcl_X7 0 0 (ws' := [(q_this, .inr (6, [.int 0, .int s_trouble, .int s_where, .ref q_cache, v_read, v_tape, .int s_taped, .int s_size, .int s_spot, .int s_sort, .int s_place, .int s_number, .int s_fault, .int s_wrongAt, .long s_letters, .ref q_v0, v_x, .ref q_past, v_kept, .int s_acts, .int s_images, .int s_ways, .int s_victims, .int s_backs, v_order, .int s_ordered, .int s_hitNow, .int s_hitsNow, v_plainLine, v_plainDirty, .int s_plainHit, .int s_plainBack, .int s_fitsNow, .int s_someNow, .int s_everyNow, v_otherIn, .int s_askLeft, .int s_drawn])), (q_past, .inl (E.2.1 0, 9744, .inl s_past)), (q_v0, .inl (E.2.1 0, 609, .inl s_v0))]) zw_901 ⟨rfl, rfl, by decide, rfl⟩ rfl rfl rfl (Nat.le_of_ble_eq_true rfl) rfl dX7_undo_2 rfl ?_
  refine j_aload_n (q := 6) hC dX7_undo_5 rfl rfl 0 rfl ?_
  refine j_get (q := 9) hC zcl_X7 0 3 zw_904 ⟨rfl, rfl, by decide⟩ rfl rfl dX7_undo_6 rfl ?_
  refine j_ifnull (q := 12) hC dX7_undo_9 rfl ?_
  refine j_aload_n (q := 13) hC dX7_undo_12 rfl rfl 0 rfl ?_
  refine j_get (q := 16) hC zcl_X7 0 19 zw_920 ⟨rfl, rfl, by decide⟩ rfl rfl dX7_undo_13 rfl ?_
  refine j_if_ne (tgt := 26) (q := 19) hC dX7_undo_16 (by decide) rfl hf (fun _ hf => ?_) (fun _ hf => ?_)
  · refine j_aload_n (q := 27) hC dX7_undo_26 rfl rfl 0 rfl ?_
    refine j_dup (q := 28) hC dX7_undo_27 rfl rfl ?_
    refine j_get (q := 31) hC zcl_X7 0 19 zw_920 ⟨rfl, rfl, by decide⟩ rfl rfl dX7_undo_28 rfl ?_
    refine j_iconst (q := 32) (v := 1) hC dX7_undo_31 rfl (by decide) ?_
    refine j_isub (q := 33) hC dX7_undo_32 rfl hf (fun x1 hf => ?_)
    refine j_put (q := 36) (host := "") hC zcl_X7 0 19 (ws' := [(q_this, .inr (6, [.int 0, .int s_trouble, .int s_where, .ref q_cache, v_read, v_tape, .int s_taped, .int s_size, .int s_spot, .int s_sort, .int s_place, .int s_number, .int s_fault, .int s_wrongAt, .long s_letters, .ref q_v0, v_x, .ref q_past, v_kept, .int x1, .int s_images, .int s_ways, .int s_victims, .int s_backs, v_order, .int s_ordered, .int s_hitNow, .int s_hitsNow, v_plainLine, v_plainDirty, .int s_plainHit, .int s_plainBack, .int s_fitsNow, .int s_someNow, .int s_everyNow, v_otherIn, .int s_askLeft, .int s_drawn])), (q_past, .inl (E.2.1 0, 9744, .inl s_past)), (q_v0, .inl (E.2.1 0, 609, .inl s_v0))]) zw_920 ⟨rfl, rfl, by decide, rfl⟩ rfl rfl rfl (Nat.le_of_ble_eq_true rfl) rfl dX7_undo_33 rfl ?_
    refine j_iconst (q := 37) (v := 0) hC dX7_undo_36 rfl (by decide) ?_
    refine j_istore_n (q := 38) (lv' := [(1, .int 0), (0, .ref q_this)]) hC dX7_undo_37 rfl rfl (by decide) rfl ?_
    refine j_sub (lv' := [(0, .ref q_this), (1, .int 0)]) [1, 0] rfl ?_
    exact B38  zF 0 0 s_trouble s_where x1 s_v0 hf
  · refine j_aload_n (q := 20) hC dX7_undo_19 rfl rfl 0 rfl ?_
    refine j_bipush (q := 22) (v := 6) hC dX7_undo_20 rfl (by decide) ?_
    refine j_callV (q := 25) hC [.int 6] [] (fun x2 : Int32 × Int32 × Int32 => some (.int x2.1)) (fun x2 => [(q_this, .inr (6, [.int 0, .int x2.2.1, .int x2.2.2, .ref q_cache, v_read, v_tape, .int s_taped, .int s_size, .int s_spot, .int s_sort, .int s_place, .int s_number, .int s_fault, .int s_wrongAt, .long s_letters, .ref q_v0, v_x, .ref q_past, v_kept, .int s_acts, .int s_images, .int s_ways, .int s_victims, .int s_backs, v_order, .int s_ordered, .int s_hitNow, .int s_hitsNow, v_plainLine, v_plainDirty, .int s_plainHit, .int s_plainBack, .int s_fitsNow, .int s_someNow, .int s_everyNow, v_otherIn, .int s_askLeft, .int s_drawn]))]) (fun x2 => [(q_this, .inr (6, [.int 0, .int x2.2.1, .int x2.2.2, .ref q_cache, v_read, v_tape, .int s_taped, .int s_size, .int s_spot, .int s_sort, .int s_place, .int s_number, .int s_fault, .int s_wrongAt, .long s_letters, .ref q_v0, v_x, .ref q_past, v_kept, .int s_acts, .int s_images, .int s_ways, .int s_victims, .int s_backs, v_order, .int s_ordered, .int s_hitNow, .int s_hitsNow, v_plainLine, v_plainDirty, .int s_plainHit, .int s_plainBack, .int s_fitsNow, .int s_someNow, .int s_everyNow, v_otherIn, .int s_askLeft, .int s_drawn])), (q_past, .inl (E.2.1 0, 9744, .inl s_past)), (q_v0, .inl (E.2.1 0, 609, .inl s_v0))]) (fun x2 => [.int x2.1]) [0] [1, 2] hf (fun x2 hx => wX7_denied E q_this 0 s_trouble s_where s_taped s_size s_spot s_sort s_place s_number s_fault s_wrongAt s_letters s_acts s_images s_ways s_victims s_backs s_ordered s_hitNow s_hitsNow s_plainHit s_plainBack s_fitsNow s_someNow s_everyNow s_askLeft s_drawn (.ref q_cache) (v_read) (v_tape) (.ref q_v0) (v_x) (.ref q_past) (v_kept) (v_order) (v_plainLine) (v_plainDirty) (v_otherIn) 6 x2  hx) zy_X7_denied zw_1587 (by unfold zRm; decide) rfl rfl (fun _ => rfl) (N := 3) (by decide) (fun _ => ⟨rfl, rfl, rfl⟩) rfl rfl rfl (Nat.le_of_ble_eq_true rfl) dX7_undo_22 rfl rfl (fun _ => rfl) (fun x2 hf => ?_)
    obtain ⟨hz, hf⟩ := zbl_s hf
    have hx := Option.some.inj hf
    exact j_zret hC hR (zbl_n hz) dX7_undo_25 (by rw [← hx]) (by rw [← hx])
noncomputable def fX7_image_34 (s_v0 : (Nat → Int32))  : Nat → Int32 → Int32 → Int32 → Int32 → Int32 → (Nat → Int32) → Option (Int32 × Int32 × Int32 × Int32 × Int32 × (Nat → Int32))
  | 0, _, _, _, _, _, _ => none
  | m + 1, b1, s_thrown, s_trouble, s_where, s_images, s_kept =>
    if 609 ≤ b1 then (zlet (s_images + 1 : Int32) fun x1 =>
    zlet (x1 - 1 : Int32) fun x2 =>
    (fX7_good s_trouble s_where x2).bind fun x3 =>
    some (x3.1, s_thrown, x3.2.1, x3.2.2, x1, s_kept))
    else (zlet (609 * s_images : Int32) fun x4 =>
    zlet (x4 + b1 : Int32) fun x5 =>
    zald s_v0 609 b1 fun x6 =>
    zast s_kept 1827 x5 x6 fun x7 =>
    zlet (b1 + 1) fun x8 =>
    fX7_image_34 s_v0  m x8 s_thrown s_trouble s_where s_images x7)
noncomputable def fX7_image (s_thrown : Int32) (s_trouble : Int32) (s_where : Int32) (s_images : Int32) (s_kept : (Nat → Int32)) (s_v0 : (Nat → Int32)) : Option (Int32 × Int32 × Int32 × Int32 × Int32 × (Nat → Int32)) :=
  if s_images = 3 then ((fX7_refused s_trouble s_where 3).bind fun x1 =>
    some (x1.1, 0, x1.2.1, x1.2.2, s_images, s_kept))
    else (fX7_image_34 s_v0  zF 0 0 s_trouble s_where s_images s_kept)
set_option maxHeartbeats 4000000 in
set_option maxRecDepth 100000 in
theorem wX7_image (E : zE) (q_this : Nat) (q_cache : Nat) (q_kept : Nat) (q_v0 : Nat) (s_thrown : Int32) (s_trouble : Int32) (s_where : Int32) (s_taped : Int32) (s_size : Int32) (s_spot : Int32) (s_sort : Int32) (s_place : Int32) (s_number : Int32) (s_fault : Int32) (s_wrongAt : Int32) (s_letters : Int64) (s_acts : Int32) (s_images : Int32) (s_ways : Int32) (s_victims : Int32) (s_backs : Int32) (s_ordered : Int32) (s_hitNow : Int32) (s_hitsNow : Int32) (s_plainHit : Int32) (s_plainBack : Int32) (s_fitsNow : Int32) (s_someNow : Int32) (s_everyNow : Int32) (s_askLeft : Int32) (s_drawn : Int32) (s_kept : (Nat → Int32)) (s_v0 : (Nat → Int32)) (v_read : Value) (v_tape : Value) (v_x : Value) (v_past : Value) (v_order : Value) (v_plainLine : Value) (v_plainDirty : Value) (v_otherIn : Value) (x : Int32 × Int32 × Int32 × Int32 × Int32 × (Nat → Int32)) (hf : fX7_image s_thrown s_trouble s_where s_images s_kept s_v0 = some x) (l : Launch) (sz : Nat) : zM l yX7_image cX7_image 2 (some .int) { frames := 1, cells := 0, slots := 0, locals := 21 } E [.ref q_this] [(q_this, .inr (6, [.int s_thrown, .int s_trouble, .int s_where, .ref q_cache, v_read, v_tape, .int s_taped, .int s_size, .int s_spot, .int s_sort, .int s_place, .int s_number, .int s_fault, .int s_wrongAt, .long s_letters, .ref q_v0, v_x, v_past, .ref q_kept, .int s_acts, .int s_images, .int s_ways, .int s_victims, .int s_backs, v_order, .int s_ordered, .int s_hitNow, .int s_hitsNow, v_plainLine, v_plainDirty, .int s_plainHit, .int s_plainBack, .int s_fitsNow, .int s_someNow, .int s_everyNow, v_otherIn, .int s_askLeft, .int s_drawn])), (q_kept, .inl (E.2.1 0, 1827, .inl s_kept)), (q_v0, .inl (E.2.1 0, 609, .inl s_v0))] sz (some (.int x.1)) [(q_this, .inr (6, [.int x.2.1, .int x.2.2.1, .int x.2.2.2.1, .ref q_cache, v_read, v_tape, .int s_taped, .int s_size, .int s_spot, .int s_sort, .int s_place, .int s_number, .int s_fault, .int s_wrongAt, .long s_letters, .ref q_v0, v_x, v_past, .ref q_kept, .int s_acts, .int x.2.2.2.2.1, .int s_ways, .int s_victims, .int s_backs, v_order, .int s_ordered, .int s_hitNow, .int s_hitsNow, v_plainLine, v_plainDirty, .int s_plainHit, .int s_plainBack, .int s_fitsNow, .int s_someNow, .int s_everyNow, v_otherIn, .int s_askLeft, .int s_drawn])), (q_kept, .inl (E.2.1 0, 1827, .inl x.2.2.2.2.2)), (q_v0, .inl (E.2.1 0, 609, .inl s_v0))] := by
  refine zEnter (by decide) (Nat.le_of_ble_eq_true rfl) ?_
  intro C hC hR
  change zC C E cX7_image "PackedCacheModel" 2 _ at hC
  have B34 : ∀ (N : Nat), ∀ (b1 : Int32) (s_thrown : Int32) (s_trouble : Int32) (s_where : Int32) (s_images : Int32) (s_kept : (Nat → Int32)), fX7_image_34 s_v0  N b1 s_thrown s_trouble s_where s_images s_kept = some x → J C 0 0 [(q_this, .inr (6, [.int s_thrown, .int s_trouble, .int s_where, .ref q_cache, v_read, v_tape, .int s_taped, .int s_size, .int s_spot, .int s_sort, .int s_place, .int s_number, .int s_fault, .int s_wrongAt, .long s_letters, .ref q_v0, v_x, v_past, .ref q_kept, .int s_acts, .int s_images, .int s_ways, .int s_victims, .int s_backs, v_order, .int s_ordered, .int s_hitNow, .int s_hitsNow, v_plainLine, v_plainDirty, .int s_plainHit, .int s_plainBack, .int s_fitsNow, .int s_someNow, .int s_everyNow, v_otherIn, .int s_askLeft, .int s_drawn])), (q_kept, .inl (E.2.1 0, 1827, .inl s_kept)), (q_v0, .inl (E.2.1 0, 609, .inl s_v0))] [(0, .ref q_this), (1, .int b1)] 34 [] := by
    intro  N
    induction N with
    | zero =>
      intro b1 s_thrown s_trouble s_where s_images s_kept hf
      rw [fX7_image_34] at hf
      cases hf
    | succ m ih =>
      intro b1 s_thrown s_trouble s_where s_images s_kept hf
      rw [fX7_image_34] at hf
      refine j_iload_n (q := 35) hC dX7_image_34 rfl rfl 1 rfl ?_
      refine j_sipush (q := 38) (v := 609) hC dX7_image_35 rfl (by decide) ?_
      refine j_icmp_ge (tgt := 68) (q := 41) hC dX7_image_38 (by decide) rfl hf (fun _ hf => ?_) (fun _ hf => ?_)
      · refine j_aload_n (q := 69) hC dX7_image_68 rfl rfl 0 rfl ?_
        refine j_dup (q := 70) hC dX7_image_69 rfl rfl ?_
        refine j_get (q := 73) hC zcl_X7 0 20 zw_921 ⟨rfl, rfl, by decide⟩ rfl rfl dX7_image_70 rfl ?_
        refine j_iconst (q := 74) (v := 1) hC dX7_image_73 rfl (by decide) ?_
        refine j_iadd (q := 75) hC dX7_image_74 rfl hf (fun x1 hf => ?_)
        refine j_put (q := 78) (host := "") hC zcl_X7 0 20 (ws' := [(q_this, .inr (6, [.int s_thrown, .int s_trouble, .int s_where, .ref q_cache, v_read, v_tape, .int s_taped, .int s_size, .int s_spot, .int s_sort, .int s_place, .int s_number, .int s_fault, .int s_wrongAt, .long s_letters, .ref q_v0, v_x, v_past, .ref q_kept, .int s_acts, .int x1, .int s_ways, .int s_victims, .int s_backs, v_order, .int s_ordered, .int s_hitNow, .int s_hitsNow, v_plainLine, v_plainDirty, .int s_plainHit, .int s_plainBack, .int s_fitsNow, .int s_someNow, .int s_everyNow, v_otherIn, .int s_askLeft, .int s_drawn])), (q_kept, .inl (E.2.1 0, 1827, .inl s_kept)), (q_v0, .inl (E.2.1 0, 609, .inl s_v0))]) zw_921 ⟨rfl, rfl, by decide, rfl⟩ rfl rfl rfl (Nat.le_of_ble_eq_true rfl) rfl dX7_image_75 rfl ?_
        refine j_aload_n (q := 79) hC dX7_image_78 rfl rfl 0 rfl ?_
        refine j_aload_n (q := 80) hC dX7_image_79 rfl rfl 0 rfl ?_
        refine j_get (q := 83) hC zcl_X7 0 20 zw_921 ⟨rfl, rfl, by decide⟩ rfl rfl dX7_image_80 rfl ?_
        refine j_iconst (q := 84) (v := 1) hC dX7_image_83 rfl (by decide) ?_
        refine j_isub (q := 85) hC dX7_image_84 rfl hf (fun x2 hf => ?_)
        refine j_callV (q := 88) hC [.int x2] [] (fun x3 : Int32 × Int32 × Int32 => some (.int x3.1)) (fun x3 => [(q_this, .inr (6, [.int s_thrown, .int x3.2.1, .int x3.2.2, .ref q_cache, v_read, v_tape, .int s_taped, .int s_size, .int s_spot, .int s_sort, .int s_place, .int s_number, .int s_fault, .int s_wrongAt, .long s_letters, .ref q_v0, v_x, v_past, .ref q_kept, .int s_acts, .int x1, .int s_ways, .int s_victims, .int s_backs, v_order, .int s_ordered, .int s_hitNow, .int s_hitsNow, v_plainLine, v_plainDirty, .int s_plainHit, .int s_plainBack, .int s_fitsNow, .int s_someNow, .int s_everyNow, v_otherIn, .int s_askLeft, .int s_drawn]))]) (fun x3 => [(q_this, .inr (6, [.int s_thrown, .int x3.2.1, .int x3.2.2, .ref q_cache, v_read, v_tape, .int s_taped, .int s_size, .int s_spot, .int s_sort, .int s_place, .int s_number, .int s_fault, .int s_wrongAt, .long s_letters, .ref q_v0, v_x, v_past, .ref q_kept, .int s_acts, .int x1, .int s_ways, .int s_victims, .int s_backs, v_order, .int s_ordered, .int s_hitNow, .int s_hitsNow, v_plainLine, v_plainDirty, .int s_plainHit, .int s_plainBack, .int s_fitsNow, .int s_someNow, .int s_everyNow, v_otherIn, .int s_askLeft, .int s_drawn])), (q_kept, .inl (E.2.1 0, 1827, .inl s_kept)), (q_v0, .inl (E.2.1 0, 609, .inl s_v0))]) (fun x3 => [.int x3.1]) [0] [1, 2] hf (fun x3 hx => wX7_good E q_this s_thrown s_trouble s_where s_taped s_size s_spot s_sort s_place s_number s_fault s_wrongAt s_letters s_acts x1 s_ways s_victims s_backs s_ordered s_hitNow s_hitsNow s_plainHit s_plainBack s_fitsNow s_someNow s_everyNow s_askLeft s_drawn (.ref q_cache) (v_read) (v_tape) (.ref q_v0) (v_x) (v_past) (.ref q_kept) (v_order) (v_plainLine) (v_plainDirty) (v_otherIn) x2 x3  hx) zy_X7_good zw_1209 (by unfold zRm; decide) rfl rfl (fun _ => rfl) (N := 3) (by decide) (fun _ => ⟨rfl, rfl, rfl⟩) rfl rfl rfl (Nat.le_of_ble_eq_true rfl) dX7_image_85 rfl rfl (fun _ => rfl) (fun x3 hf => ?_)
        have hx := Option.some.inj hf
        exact j_iret hC hR dX7_image_88 (by rw [← hx]) (by rw [← hx])
      · refine j_aload_n (q := 42) hC dX7_image_41 rfl rfl 0 rfl ?_
        refine j_get (q := 45) hC zcl_X7 0 18 zw_919 ⟨rfl, rfl, by decide⟩ rfl rfl dX7_image_42 rfl ?_
        refine j_sipush (q := 48) (v := 609) hC dX7_image_45 rfl (by decide) ?_
        refine j_aload_n (q := 49) hC dX7_image_48 rfl rfl 0 rfl ?_
        refine j_get (q := 52) hC zcl_X7 0 20 zw_921 ⟨rfl, rfl, by decide⟩ rfl rfl dX7_image_49 rfl ?_
        refine j_imul (q := 53) hC dX7_image_52 rfl hf (fun x4 hf => ?_)
        refine j_iload_n (q := 54) hC dX7_image_53 rfl rfl 1 rfl ?_
        refine j_iadd (q := 55) hC dX7_image_54 rfl hf (fun x5 hf => ?_)
        refine j_aload_n (q := 56) hC dX7_image_55 rfl rfl 0 rfl ?_
        refine j_get (q := 59) hC zcl_X7 0 15 zw_916 ⟨rfl, rfl, by decide⟩ rfl rfl dX7_image_56 rfl ?_
        refine j_iload_n (q := 60) hC dX7_image_59 rfl rfl 1 rfl ?_
        refine j_iald (q := 61) hC 2 rfl dX7_image_60 rfl hf (fun x6 hf => ?_)
        refine j_iast (q := 62) hC (fun x7 => [(q_this, .inr (6, [.int s_thrown, .int s_trouble, .int s_where, .ref q_cache, v_read, v_tape, .int s_taped, .int s_size, .int s_spot, .int s_sort, .int s_place, .int s_number, .int s_fault, .int s_wrongAt, .long s_letters, .ref q_v0, v_x, v_past, .ref q_kept, .int s_acts, .int s_images, .int s_ways, .int s_victims, .int s_backs, v_order, .int s_ordered, .int s_hitNow, .int s_hitsNow, v_plainLine, v_plainDirty, .int s_plainHit, .int s_plainBack, .int s_fitsNow, .int s_someNow, .int s_everyNow, v_otherIn, .int s_askLeft, .int s_drawn])), (q_kept, .inl (E.2.1 0, 1827, .inl x7)), (q_v0, .inl (E.2.1 0, 609, .inl s_v0))]) 1 rfl (fun _ => rfl) dX7_image_61 rfl hf (fun x7 hf => ?_)
        refine j_iinc (q := 65) (v := 1) hC (fun x8 => [(1, .int x8), (0, .ref q_this)]) dX7_image_62 rfl 1 rfl (by decide) (by decide) (fun _ => rfl) hf (fun x8 hf => ?_)
        refine j_goto (tgt := 34) hC dX7_image_65 (by decide) ?_
        refine j_sub (lv' := [(0, .ref q_this), (1, .int x8)]) [1, 0] rfl ?_
        exact ih x8 s_thrown s_trouble s_where s_images x7 hf
  unfold fX7_image at hf
  refine j_sub (lv' := [(0, .ref q_this)]) [0] rfl ?_
  refine j_aload_n (q := 1) hC dX7_image_0 rfl rfl 0 rfl ?_
  refine j_iconst (q := 2) (v := 0) hC dX7_image_1 rfl (by decide) ?_
  refine j_put (q := 5) (host := "") hC zcl_X7 0 0 (ws' := [(q_this, .inr (6, [.int 0, .int s_trouble, .int s_where, .ref q_cache, v_read, v_tape, .int s_taped, .int s_size, .int s_spot, .int s_sort, .int s_place, .int s_number, .int s_fault, .int s_wrongAt, .long s_letters, .ref q_v0, v_x, v_past, .ref q_kept, .int s_acts, .int s_images, .int s_ways, .int s_victims, .int s_backs, v_order, .int s_ordered, .int s_hitNow, .int s_hitsNow, v_plainLine, v_plainDirty, .int s_plainHit, .int s_plainBack, .int s_fitsNow, .int s_someNow, .int s_everyNow, v_otherIn, .int s_askLeft, .int s_drawn])), (q_kept, .inl (E.2.1 0, 1827, .inl s_kept)), (q_v0, .inl (E.2.1 0, 609, .inl s_v0))]) zw_901 ⟨rfl, rfl, by decide, rfl⟩ rfl rfl rfl (Nat.le_of_ble_eq_true rfl) rfl dX7_image_2 rfl ?_
  refine j_aload_n (q := 6) hC dX7_image_5 rfl rfl 0 rfl ?_
  refine j_get (q := 9) hC zcl_X7 0 3 zw_904 ⟨rfl, rfl, by decide⟩ rfl rfl dX7_image_6 rfl ?_
  refine j_ifnonnull (tgt := 18) hC dX7_image_9 (by decide) ?_
  refine j_aload_n (q := 19) hC dX7_image_18 rfl rfl 0 rfl ?_
  refine j_get (q := 22) hC zcl_X7 0 20 zw_921 ⟨rfl, rfl, by decide⟩ rfl rfl dX7_image_19 rfl ?_
  refine j_iconst (q := 23) (v := 3) hC dX7_image_22 rfl (by decide) ?_
  refine j_icmp_ne (tgt := 32) (q := 26) hC dX7_image_23 (by decide) rfl hf (fun _ hf => ?_) (fun _ hf => ?_)
  · refine j_iconst (q := 33) (v := 0) hC dX7_image_32 rfl (by decide) ?_
    refine j_istore_n (q := 34) (lv' := [(1, .int 0), (0, .ref q_this)]) hC dX7_image_33 rfl rfl (by decide) rfl ?_
    refine j_sub (lv' := [(0, .ref q_this), (1, .int 0)]) [1, 0] rfl ?_
    exact B34  zF 0 0 s_trouble s_where s_images s_kept hf
  · refine j_aload_n (q := 27) hC dX7_image_26 rfl rfl 0 rfl ?_
    refine j_iconst (q := 28) (v := 3) hC dX7_image_27 rfl (by decide) ?_
    refine j_callV (q := 31) hC [.int 3] [] (fun x1 : Int32 × Int32 × Int32 => some (.int x1.1)) (fun x1 => [(q_this, .inr (6, [.int 0, .int x1.2.1, .int x1.2.2, .ref q_cache, v_read, v_tape, .int s_taped, .int s_size, .int s_spot, .int s_sort, .int s_place, .int s_number, .int s_fault, .int s_wrongAt, .long s_letters, .ref q_v0, v_x, v_past, .ref q_kept, .int s_acts, .int s_images, .int s_ways, .int s_victims, .int s_backs, v_order, .int s_ordered, .int s_hitNow, .int s_hitsNow, v_plainLine, v_plainDirty, .int s_plainHit, .int s_plainBack, .int s_fitsNow, .int s_someNow, .int s_everyNow, v_otherIn, .int s_askLeft, .int s_drawn]))]) (fun x1 => [(q_this, .inr (6, [.int 0, .int x1.2.1, .int x1.2.2, .ref q_cache, v_read, v_tape, .int s_taped, .int s_size, .int s_spot, .int s_sort, .int s_place, .int s_number, .int s_fault, .int s_wrongAt, .long s_letters, .ref q_v0, v_x, v_past, .ref q_kept, .int s_acts, .int s_images, .int s_ways, .int s_victims, .int s_backs, v_order, .int s_ordered, .int s_hitNow, .int s_hitsNow, v_plainLine, v_plainDirty, .int s_plainHit, .int s_plainBack, .int s_fitsNow, .int s_someNow, .int s_everyNow, v_otherIn, .int s_askLeft, .int s_drawn])), (q_kept, .inl (E.2.1 0, 1827, .inl s_kept)), (q_v0, .inl (E.2.1 0, 609, .inl s_v0))]) (fun x1 => [.int x1.1]) [0] [1, 2] hf (fun x1 hx => wX7_refused E q_this 0 s_trouble s_where s_taped s_size s_spot s_sort s_place s_number s_fault s_wrongAt s_letters s_acts s_images s_ways s_victims s_backs s_ordered s_hitNow s_hitsNow s_plainHit s_plainBack s_fitsNow s_someNow s_everyNow s_askLeft s_drawn (.ref q_cache) (v_read) (v_tape) (.ref q_v0) (v_x) (v_past) (.ref q_kept) (v_order) (v_plainLine) (v_plainDirty) (v_otherIn) 3 x1  hx) zy_X7_refused zw_1029 (by unfold zRm; decide) rfl rfl (fun _ => rfl) (N := 3) (by decide) (fun _ => ⟨rfl, rfl, rfl⟩) rfl rfl rfl (Nat.le_of_ble_eq_true rfl) dX7_image_28 rfl rfl (fun _ => rfl) (fun x1 hf => ?_)
    have hx := Option.some.inj hf
    exact j_iret hC hR dX7_image_31 (by rw [← hx]) (by rw [← hx])
noncomputable def fX7_back_32 (s_images : Int32) (s_kept : (Nat → Int32))  : Nat → Int32 → Int32 → Int32 → Int32 → Int32 → Int32 → (Nat → Int32) → Option (Int32 × Int32 × Int32 × Int32 × Int32 × (Nat → Int32))
  | 0, _, _, _, _, _, _, _ => none
  | m + 1, b1, b2, s_thrown, s_trouble, s_where, s_acts, s_v0 =>
    if 609 ≤ b2 then ((fX7_granted s_trouble s_where).bind fun x1 =>
    zbl x1.1 (some (x1.1, s_thrown, x1.2.1, x1.2.2, 0, s_v0)))
    else (zlet (609 * b1 : Int32) fun x2 =>
    zlet (x2 + b2 : Int32) fun x3 =>
    zald s_kept 1827 x3 fun x4 =>
    zast s_v0 609 b2 x4 fun x5 =>
    zlet (b2 + 1) fun x6 =>
    fX7_back_32 s_images s_kept  m b1 x6 s_thrown s_trouble s_where s_acts x5)
noncomputable def fX7_back_24 (s_images : Int32) (s_kept : (Nat → Int32))  (s_thrown : Int32) (s_trouble : Int32) (s_where : Int32) (s_acts : Int32) (s_v0 : (Nat → Int32)) : Option (Int32 × Int32 × Int32 × Int32 × Int32 × (Nat → Int32)) :=
  (fX7_denied s_trouble s_where 1).bind fun x1 =>
    zbl x1.1 (some (x1.1, s_thrown, x1.2.1, x1.2.2, s_acts, s_v0))
noncomputable def fX7_back (s_thrown : Int32) (s_trouble : Int32) (s_where : Int32) (s_acts : Int32) (s_images : Int32) (s_kept : (Nat → Int32)) (s_v0 : (Nat → Int32)) (a1 : Int32) : Option (Int32 × Int32 × Int32 × Int32 × Int32 × (Nat → Int32)) :=
  if a1 < 0 then (fX7_back_24 s_images s_kept  0 s_trouble s_where s_acts s_v0)
    else (if a1 < s_images then (fX7_back_32 s_images s_kept  zF a1 0 0 s_trouble s_where s_acts s_v0)
    else (fX7_back_24 s_images s_kept  0 s_trouble s_where s_acts s_v0))
set_option maxHeartbeats 4000000 in
set_option maxRecDepth 100000 in
theorem wX7_back (E : zE) (q_this : Nat) (q_cache : Nat) (q_kept : Nat) (q_v0 : Nat) (s_thrown : Int32) (s_trouble : Int32) (s_where : Int32) (s_taped : Int32) (s_size : Int32) (s_spot : Int32) (s_sort : Int32) (s_place : Int32) (s_number : Int32) (s_fault : Int32) (s_wrongAt : Int32) (s_letters : Int64) (s_acts : Int32) (s_images : Int32) (s_ways : Int32) (s_victims : Int32) (s_backs : Int32) (s_ordered : Int32) (s_hitNow : Int32) (s_hitsNow : Int32) (s_plainHit : Int32) (s_plainBack : Int32) (s_fitsNow : Int32) (s_someNow : Int32) (s_everyNow : Int32) (s_askLeft : Int32) (s_drawn : Int32) (s_kept : (Nat → Int32)) (s_v0 : (Nat → Int32)) (v_read : Value) (v_tape : Value) (v_x : Value) (v_past : Value) (v_order : Value) (v_plainLine : Value) (v_plainDirty : Value) (v_otherIn : Value) (a1 : Int32) (x : Int32 × Int32 × Int32 × Int32 × Int32 × (Nat → Int32)) (hf : fX7_back s_thrown s_trouble s_where s_acts s_images s_kept s_v0 a1 = some x) (l : Launch) (sz : Nat) : zM l yX7_back cX7_back 3 (some .boolean) { frames := 2, cells := 0, slots := 0, locals := 42 } E [.ref q_this, .int a1] [(q_this, .inr (6, [.int s_thrown, .int s_trouble, .int s_where, .ref q_cache, v_read, v_tape, .int s_taped, .int s_size, .int s_spot, .int s_sort, .int s_place, .int s_number, .int s_fault, .int s_wrongAt, .long s_letters, .ref q_v0, v_x, v_past, .ref q_kept, .int s_acts, .int s_images, .int s_ways, .int s_victims, .int s_backs, v_order, .int s_ordered, .int s_hitNow, .int s_hitsNow, v_plainLine, v_plainDirty, .int s_plainHit, .int s_plainBack, .int s_fitsNow, .int s_someNow, .int s_everyNow, v_otherIn, .int s_askLeft, .int s_drawn])), (q_kept, .inl (E.2.1 0, 1827, .inl s_kept)), (q_v0, .inl (E.2.1 0, 609, .inl s_v0))] sz (some (.int x.1)) [(q_this, .inr (6, [.int x.2.1, .int x.2.2.1, .int x.2.2.2.1, .ref q_cache, v_read, v_tape, .int s_taped, .int s_size, .int s_spot, .int s_sort, .int s_place, .int s_number, .int s_fault, .int s_wrongAt, .long s_letters, .ref q_v0, v_x, v_past, .ref q_kept, .int x.2.2.2.2.1, .int s_images, .int s_ways, .int s_victims, .int s_backs, v_order, .int s_ordered, .int s_hitNow, .int s_hitsNow, v_plainLine, v_plainDirty, .int s_plainHit, .int s_plainBack, .int s_fitsNow, .int s_someNow, .int s_everyNow, v_otherIn, .int s_askLeft, .int s_drawn])), (q_kept, .inl (E.2.1 0, 1827, .inl s_kept)), (q_v0, .inl (E.2.1 0, 609, .inl x.2.2.2.2.2))] := by
  refine zEnter (by decide) (Nat.le_of_ble_eq_true rfl) ?_
  intro C hC hR
  change zC C E cX7_back "PackedCacheModel" 3 _ at hC
  have B32 : ∀ (N : Nat), ∀ (b1 : Int32) (b2 : Int32) (s_thrown : Int32) (s_trouble : Int32) (s_where : Int32) (s_acts : Int32) (s_v0 : (Nat → Int32)), fX7_back_32 s_images s_kept  N b1 b2 s_thrown s_trouble s_where s_acts s_v0 = some x → J C 0 0 [(q_this, .inr (6, [.int s_thrown, .int s_trouble, .int s_where, .ref q_cache, v_read, v_tape, .int s_taped, .int s_size, .int s_spot, .int s_sort, .int s_place, .int s_number, .int s_fault, .int s_wrongAt, .long s_letters, .ref q_v0, v_x, v_past, .ref q_kept, .int s_acts, .int s_images, .int s_ways, .int s_victims, .int s_backs, v_order, .int s_ordered, .int s_hitNow, .int s_hitsNow, v_plainLine, v_plainDirty, .int s_plainHit, .int s_plainBack, .int s_fitsNow, .int s_someNow, .int s_everyNow, v_otherIn, .int s_askLeft, .int s_drawn])), (q_kept, .inl (E.2.1 0, 1827, .inl s_kept)), (q_v0, .inl (E.2.1 0, 609, .inl s_v0))] [(0, .ref q_this), (1, .int b1), (2, .int b2)] 32 [] := by
    intro  N
    induction N with
    | zero =>
      intro b1 b2 s_thrown s_trouble s_where s_acts s_v0 hf
      rw [fX7_back_32] at hf
      cases hf
    | succ m ih =>
      intro b1 b2 s_thrown s_trouble s_where s_acts s_v0 hf
      rw [fX7_back_32] at hf
      refine j_iload_n (q := 33) hC dX7_back_32 rfl rfl 2 rfl ?_
      refine j_sipush (q := 36) (v := 609) hC dX7_back_33 rfl (by decide) ?_
      refine j_icmp_ge (tgt := 63) (q := 39) hC dX7_back_36 (by decide) rfl hf (fun _ hf => ?_) (fun _ hf => ?_)
      · refine j_aload_n (q := 64) hC dX7_back_63 rfl rfl 0 rfl ?_
        refine j_iconst (q := 65) (v := 0) hC dX7_back_64 rfl (by decide) ?_
        refine j_put (q := 68) (host := "") hC zcl_X7 0 19 (ws' := [(q_this, .inr (6, [.int s_thrown, .int s_trouble, .int s_where, .ref q_cache, v_read, v_tape, .int s_taped, .int s_size, .int s_spot, .int s_sort, .int s_place, .int s_number, .int s_fault, .int s_wrongAt, .long s_letters, .ref q_v0, v_x, v_past, .ref q_kept, .int 0, .int s_images, .int s_ways, .int s_victims, .int s_backs, v_order, .int s_ordered, .int s_hitNow, .int s_hitsNow, v_plainLine, v_plainDirty, .int s_plainHit, .int s_plainBack, .int s_fitsNow, .int s_someNow, .int s_everyNow, v_otherIn, .int s_askLeft, .int s_drawn])), (q_kept, .inl (E.2.1 0, 1827, .inl s_kept)), (q_v0, .inl (E.2.1 0, 609, .inl s_v0))]) zw_920 ⟨rfl, rfl, by decide, rfl⟩ rfl rfl rfl (Nat.le_of_ble_eq_true rfl) rfl dX7_back_65 rfl ?_
        refine j_aload_n (q := 69) hC dX7_back_68 rfl rfl 0 rfl ?_
        refine j_callV (q := 72) hC [] [] (fun x1 : Int32 × Int32 × Int32 => some (.int x1.1)) (fun x1 => [(q_this, .inr (6, [.int s_thrown, .int x1.2.1, .int x1.2.2, .ref q_cache, v_read, v_tape, .int s_taped, .int s_size, .int s_spot, .int s_sort, .int s_place, .int s_number, .int s_fault, .int s_wrongAt, .long s_letters, .ref q_v0, v_x, v_past, .ref q_kept, .int 0, .int s_images, .int s_ways, .int s_victims, .int s_backs, v_order, .int s_ordered, .int s_hitNow, .int s_hitsNow, v_plainLine, v_plainDirty, .int s_plainHit, .int s_plainBack, .int s_fitsNow, .int s_someNow, .int s_everyNow, v_otherIn, .int s_askLeft, .int s_drawn]))]) (fun x1 => [(q_this, .inr (6, [.int s_thrown, .int x1.2.1, .int x1.2.2, .ref q_cache, v_read, v_tape, .int s_taped, .int s_size, .int s_spot, .int s_sort, .int s_place, .int s_number, .int s_fault, .int s_wrongAt, .long s_letters, .ref q_v0, v_x, v_past, .ref q_kept, .int 0, .int s_images, .int s_ways, .int s_victims, .int s_backs, v_order, .int s_ordered, .int s_hitNow, .int s_hitsNow, v_plainLine, v_plainDirty, .int s_plainHit, .int s_plainBack, .int s_fitsNow, .int s_someNow, .int s_everyNow, v_otherIn, .int s_askLeft, .int s_drawn])), (q_kept, .inl (E.2.1 0, 1827, .inl s_kept)), (q_v0, .inl (E.2.1 0, 609, .inl s_v0))]) (fun x1 => [.int x1.1]) [0] [1, 2] hf (fun x1 hx => wX7_granted E q_this s_thrown s_trouble s_where s_taped s_size s_spot s_sort s_place s_number s_fault s_wrongAt s_letters 0 s_images s_ways s_victims s_backs s_ordered s_hitNow s_hitsNow s_plainHit s_plainBack s_fitsNow s_someNow s_everyNow s_askLeft s_drawn (.ref q_cache) (v_read) (v_tape) (.ref q_v0) (v_x) (v_past) (.ref q_kept) (v_order) (v_plainLine) (v_plainDirty) (v_otherIn) x1  hx) zy_X7_granted zw_1591 (by unfold zRm; decide) rfl rfl (fun _ => rfl) (N := 3) (by decide) (fun _ => ⟨rfl, rfl, rfl⟩) rfl rfl rfl (Nat.le_of_ble_eq_true rfl) dX7_back_69 rfl rfl (fun _ => rfl) (fun x1 hf => ?_)
        obtain ⟨hz, hf⟩ := zbl_s hf
        have hx := Option.some.inj hf
        exact j_zret hC hR (zbl_n hz) dX7_back_72 (by rw [← hx]) (by rw [← hx])
      · refine j_aload_n (q := 40) hC dX7_back_39 rfl rfl 0 rfl ?_
        refine j_get (q := 43) hC zcl_X7 0 15 zw_916 ⟨rfl, rfl, by decide⟩ rfl rfl dX7_back_40 rfl ?_
        refine j_iload_n (q := 44) hC dX7_back_43 rfl rfl 2 rfl ?_
        refine j_aload_n (q := 45) hC dX7_back_44 rfl rfl 0 rfl ?_
        refine j_get (q := 48) hC zcl_X7 0 18 zw_919 ⟨rfl, rfl, by decide⟩ rfl rfl dX7_back_45 rfl ?_
        refine j_sipush (q := 51) (v := 609) hC dX7_back_48 rfl (by decide) ?_
        refine j_iload_n (q := 52) hC dX7_back_51 rfl rfl 1 rfl ?_
        refine j_imul (q := 53) hC dX7_back_52 rfl hf (fun x2 hf => ?_)
        refine j_iload_n (q := 54) hC dX7_back_53 rfl rfl 2 rfl ?_
        refine j_iadd (q := 55) hC dX7_back_54 rfl hf (fun x3 hf => ?_)
        refine j_iald (q := 56) hC 1 rfl dX7_back_55 rfl hf (fun x4 hf => ?_)
        refine j_iast (q := 57) hC (fun x5 => [(q_this, .inr (6, [.int s_thrown, .int s_trouble, .int s_where, .ref q_cache, v_read, v_tape, .int s_taped, .int s_size, .int s_spot, .int s_sort, .int s_place, .int s_number, .int s_fault, .int s_wrongAt, .long s_letters, .ref q_v0, v_x, v_past, .ref q_kept, .int s_acts, .int s_images, .int s_ways, .int s_victims, .int s_backs, v_order, .int s_ordered, .int s_hitNow, .int s_hitsNow, v_plainLine, v_plainDirty, .int s_plainHit, .int s_plainBack, .int s_fitsNow, .int s_someNow, .int s_everyNow, v_otherIn, .int s_askLeft, .int s_drawn])), (q_kept, .inl (E.2.1 0, 1827, .inl s_kept)), (q_v0, .inl (E.2.1 0, 609, .inl x5))]) 2 rfl (fun _ => rfl) dX7_back_56 rfl hf (fun x5 hf => ?_)
        refine j_iinc (q := 60) (v := 1) hC (fun x6 => [(2, .int x6), (0, .ref q_this), (1, .int b1)]) dX7_back_57 rfl 2 rfl (by decide) (by decide) (fun _ => rfl) hf (fun x6 hf => ?_)
        refine j_goto (tgt := 32) hC dX7_back_60 (by decide) ?_
        refine j_sub (lv' := [(0, .ref q_this), (1, .int b1), (2, .int x6)]) [1, 2, 0] rfl ?_
        exact ih b1 x6 s_thrown s_trouble s_where s_acts x5 hf
  have B24 : ∀ (s_thrown : Int32) (s_trouble : Int32) (s_where : Int32) (s_acts : Int32) (s_v0 : (Nat → Int32)), fX7_back_24 s_images s_kept  s_thrown s_trouble s_where s_acts s_v0 = some x → J C 0 0 [(q_this, .inr (6, [.int s_thrown, .int s_trouble, .int s_where, .ref q_cache, v_read, v_tape, .int s_taped, .int s_size, .int s_spot, .int s_sort, .int s_place, .int s_number, .int s_fault, .int s_wrongAt, .long s_letters, .ref q_v0, v_x, v_past, .ref q_kept, .int s_acts, .int s_images, .int s_ways, .int s_victims, .int s_backs, v_order, .int s_ordered, .int s_hitNow, .int s_hitsNow, v_plainLine, v_plainDirty, .int s_plainHit, .int s_plainBack, .int s_fitsNow, .int s_someNow, .int s_everyNow, v_otherIn, .int s_askLeft, .int s_drawn])), (q_kept, .inl (E.2.1 0, 1827, .inl s_kept)), (q_v0, .inl (E.2.1 0, 609, .inl s_v0))] [(0, .ref q_this)] 24 [] := by
    intro  s_thrown s_trouble s_where s_acts s_v0 hf
    unfold fX7_back_24 at hf
    refine j_aload_n (q := 25) hC dX7_back_24 rfl rfl 0 rfl ?_
    refine j_iconst (q := 26) (v := 1) hC dX7_back_25 rfl (by decide) ?_
    refine j_callV (q := 29) hC [.int 1] [] (fun x1 : Int32 × Int32 × Int32 => some (.int x1.1)) (fun x1 => [(q_this, .inr (6, [.int s_thrown, .int x1.2.1, .int x1.2.2, .ref q_cache, v_read, v_tape, .int s_taped, .int s_size, .int s_spot, .int s_sort, .int s_place, .int s_number, .int s_fault, .int s_wrongAt, .long s_letters, .ref q_v0, v_x, v_past, .ref q_kept, .int s_acts, .int s_images, .int s_ways, .int s_victims, .int s_backs, v_order, .int s_ordered, .int s_hitNow, .int s_hitsNow, v_plainLine, v_plainDirty, .int s_plainHit, .int s_plainBack, .int s_fitsNow, .int s_someNow, .int s_everyNow, v_otherIn, .int s_askLeft, .int s_drawn]))]) (fun x1 => [(q_this, .inr (6, [.int s_thrown, .int x1.2.1, .int x1.2.2, .ref q_cache, v_read, v_tape, .int s_taped, .int s_size, .int s_spot, .int s_sort, .int s_place, .int s_number, .int s_fault, .int s_wrongAt, .long s_letters, .ref q_v0, v_x, v_past, .ref q_kept, .int s_acts, .int s_images, .int s_ways, .int s_victims, .int s_backs, v_order, .int s_ordered, .int s_hitNow, .int s_hitsNow, v_plainLine, v_plainDirty, .int s_plainHit, .int s_plainBack, .int s_fitsNow, .int s_someNow, .int s_everyNow, v_otherIn, .int s_askLeft, .int s_drawn])), (q_kept, .inl (E.2.1 0, 1827, .inl s_kept)), (q_v0, .inl (E.2.1 0, 609, .inl s_v0))]) (fun x1 => [.int x1.1]) [0] [1, 2] hf (fun x1 hx => wX7_denied E q_this s_thrown s_trouble s_where s_taped s_size s_spot s_sort s_place s_number s_fault s_wrongAt s_letters s_acts s_images s_ways s_victims s_backs s_ordered s_hitNow s_hitsNow s_plainHit s_plainBack s_fitsNow s_someNow s_everyNow s_askLeft s_drawn (.ref q_cache) (v_read) (v_tape) (.ref q_v0) (v_x) (v_past) (.ref q_kept) (v_order) (v_plainLine) (v_plainDirty) (v_otherIn) 1 x1  hx) zy_X7_denied zw_1587 (by unfold zRm; decide) rfl rfl (fun _ => rfl) (N := 3) (by decide) (fun _ => ⟨rfl, rfl, rfl⟩) rfl rfl rfl (Nat.le_of_ble_eq_true rfl) dX7_back_26 rfl rfl (fun _ => rfl) (fun x1 hf => ?_)
    obtain ⟨hz, hf⟩ := zbl_s hf
    have hx := Option.some.inj hf
    exact j_zret hC hR (zbl_n hz) dX7_back_29 (by rw [← hx]) (by rw [← hx])
  unfold fX7_back at hf
  refine j_sub (lv' := [(0, .ref q_this), (1, .int a1)]) [0, 1] rfl ?_
  refine j_aload_n (q := 1) hC dX7_back_0 rfl rfl 0 rfl ?_
  refine j_iconst (q := 2) (v := 0) hC dX7_back_1 rfl (by decide) ?_
  refine j_put (q := 5) (host := "") hC zcl_X7 0 0 (ws' := [(q_this, .inr (6, [.int 0, .int s_trouble, .int s_where, .ref q_cache, v_read, v_tape, .int s_taped, .int s_size, .int s_spot, .int s_sort, .int s_place, .int s_number, .int s_fault, .int s_wrongAt, .long s_letters, .ref q_v0, v_x, v_past, .ref q_kept, .int s_acts, .int s_images, .int s_ways, .int s_victims, .int s_backs, v_order, .int s_ordered, .int s_hitNow, .int s_hitsNow, v_plainLine, v_plainDirty, .int s_plainHit, .int s_plainBack, .int s_fitsNow, .int s_someNow, .int s_everyNow, v_otherIn, .int s_askLeft, .int s_drawn])), (q_kept, .inl (E.2.1 0, 1827, .inl s_kept)), (q_v0, .inl (E.2.1 0, 609, .inl s_v0))]) zw_901 ⟨rfl, rfl, by decide, rfl⟩ rfl rfl rfl (Nat.le_of_ble_eq_true rfl) rfl dX7_back_2 rfl ?_
  refine j_aload_n (q := 6) hC dX7_back_5 rfl rfl 0 rfl ?_
  refine j_get (q := 9) hC zcl_X7 0 3 zw_904 ⟨rfl, rfl, by decide⟩ rfl rfl dX7_back_6 rfl ?_
  refine j_ifnull (q := 12) hC dX7_back_9 rfl ?_
  refine j_iload_n (q := 13) hC dX7_back_12 rfl rfl 1 rfl ?_
  refine j_if_lt (tgt := 24) (q := 16) hC dX7_back_13 (by decide) rfl hf (fun _ hf => ?_) (fun _ hf => ?_)
  · refine j_sub (lv' := [(0, .ref q_this)]) [0] rfl ?_
    exact B24  0 s_trouble s_where s_acts s_v0 hf
  · refine j_iload_n (q := 17) hC dX7_back_16 rfl rfl 1 rfl ?_
    refine j_aload_n (q := 18) hC dX7_back_17 rfl rfl 0 rfl ?_
    refine j_get (q := 21) hC zcl_X7 0 20 zw_921 ⟨rfl, rfl, by decide⟩ rfl rfl dX7_back_18 rfl ?_
    refine j_icmp_lt (tgt := 30) (q := 24) hC dX7_back_21 (by decide) rfl hf (fun _ hf => ?_) (fun _ hf => ?_)
    · refine j_iconst (q := 31) (v := 0) hC dX7_back_30 rfl (by decide) ?_
      refine j_istore_n (q := 32) (lv' := [(2, .int 0), (0, .ref q_this), (1, .int a1)]) hC dX7_back_31 rfl rfl (by decide) rfl ?_
      refine j_sub (lv' := [(0, .ref q_this), (1, .int a1), (2, .int 0)]) [1, 2, 0] rfl ?_
      exact B32  zF a1 0 0 s_trouble s_where s_acts s_v0 hf
    · refine j_sub (lv' := [(0, .ref q_this)]) [0] rfl ?_
      exact B24  0 s_trouble s_where s_acts s_v0 hf
noncomputable def fX7_led_9 (s_v0 : (Nat → Int32))  : Nat → Int32 → Int32 → Int32 → Int32 → Option (Int32 × Int32)
  | 0, _, _, _, _ => none
  | m + 1, b1, b2, b3, s_thrown =>
    if 32 ≤ b3 then (some (0, 1))
    else (zlet (576 + b3 : Int32) fun x1 =>
    zald s_v0 609 x1 fun x2 =>
    if x2 = 0 then (zlet (b3 + 1) fun x5 =>
    fX7_led_9 s_v0  m b1 b2 x5 s_thrown)
    else (if b2 = b1 then (some (b3, s_thrown))
    else (zlet (b2 + 1) fun x3 =>
    zlet (b3 + 1) fun x4 =>
    fX7_led_9 s_v0  m b1 x3 x4 s_thrown)))
noncomputable def fX7_led (s_thrown : Int32) (s_v0 : (Nat → Int32)) (a1 : Int32) : Option (Int32 × Int32) :=
  fX7_led_9 s_v0  zF a1 0 0 0
set_option maxHeartbeats 4000000 in
set_option maxRecDepth 100000 in
theorem wX7_led (E : zE) (q_this : Nat) (q_cache : Nat) (q_v0 : Nat) (s_thrown : Int32) (s_trouble : Int32) (s_where : Int32) (s_taped : Int32) (s_size : Int32) (s_spot : Int32) (s_sort : Int32) (s_place : Int32) (s_number : Int32) (s_fault : Int32) (s_wrongAt : Int32) (s_letters : Int64) (s_acts : Int32) (s_images : Int32) (s_ways : Int32) (s_victims : Int32) (s_backs : Int32) (s_ordered : Int32) (s_hitNow : Int32) (s_hitsNow : Int32) (s_plainHit : Int32) (s_plainBack : Int32) (s_fitsNow : Int32) (s_someNow : Int32) (s_everyNow : Int32) (s_askLeft : Int32) (s_drawn : Int32) (s_v0 : (Nat → Int32)) (v_read : Value) (v_tape : Value) (v_x : Value) (v_past : Value) (v_kept : Value) (v_order : Value) (v_plainLine : Value) (v_plainDirty : Value) (v_otherIn : Value) (a1 : Int32) (x : Int32 × Int32) (hf : fX7_led s_thrown s_v0 a1 = some x) (l : Launch) (sz : Nat) : zM l yX7_led cX7_led 4 (some .int) { frames := 0, cells := 0, slots := 0, locals := 0 } E [.ref q_this, .int a1] [(q_this, .inr (6, [.int s_thrown, .int s_trouble, .int s_where, .ref q_cache, v_read, v_tape, .int s_taped, .int s_size, .int s_spot, .int s_sort, .int s_place, .int s_number, .int s_fault, .int s_wrongAt, .long s_letters, .ref q_v0, v_x, v_past, v_kept, .int s_acts, .int s_images, .int s_ways, .int s_victims, .int s_backs, v_order, .int s_ordered, .int s_hitNow, .int s_hitsNow, v_plainLine, v_plainDirty, .int s_plainHit, .int s_plainBack, .int s_fitsNow, .int s_someNow, .int s_everyNow, v_otherIn, .int s_askLeft, .int s_drawn])), (q_v0, .inl (E.2.1 0, 609, .inl s_v0))] sz (some (.int x.1)) [(q_this, .inr (6, [.int x.2, .int s_trouble, .int s_where, .ref q_cache, v_read, v_tape, .int s_taped, .int s_size, .int s_spot, .int s_sort, .int s_place, .int s_number, .int s_fault, .int s_wrongAt, .long s_letters, .ref q_v0, v_x, v_past, v_kept, .int s_acts, .int s_images, .int s_ways, .int s_victims, .int s_backs, v_order, .int s_ordered, .int s_hitNow, .int s_hitsNow, v_plainLine, v_plainDirty, .int s_plainHit, .int s_plainBack, .int s_fitsNow, .int s_someNow, .int s_everyNow, v_otherIn, .int s_askLeft, .int s_drawn])), (q_v0, .inl (E.2.1 0, 609, .inl s_v0))] := by
  refine zEnter (by decide) (Nat.le_of_ble_eq_true rfl) ?_
  intro C hC hR
  change zC C E cX7_led "PackedCacheModel" 4 _ at hC
  have B9 : ∀ (N : Nat), ∀ (b1 : Int32) (b2 : Int32) (b3 : Int32) (s_thrown : Int32), fX7_led_9 s_v0  N b1 b2 b3 s_thrown = some x → J C 0 0 [(q_this, .inr (6, [.int s_thrown, .int s_trouble, .int s_where, .ref q_cache, v_read, v_tape, .int s_taped, .int s_size, .int s_spot, .int s_sort, .int s_place, .int s_number, .int s_fault, .int s_wrongAt, .long s_letters, .ref q_v0, v_x, v_past, v_kept, .int s_acts, .int s_images, .int s_ways, .int s_victims, .int s_backs, v_order, .int s_ordered, .int s_hitNow, .int s_hitsNow, v_plainLine, v_plainDirty, .int s_plainHit, .int s_plainBack, .int s_fitsNow, .int s_someNow, .int s_everyNow, v_otherIn, .int s_askLeft, .int s_drawn])), (q_v0, .inl (E.2.1 0, 609, .inl s_v0))] [(0, .ref q_this), (1, .int b1), (2, .int b2), (3, .int b3)] 9 [] := by
    intro  N
    induction N with
    | zero =>
      intro b1 b2 b3 s_thrown hf
      rw [fX7_led_9] at hf
      cases hf
    | succ m ih =>
      intro b1 b2 b3 s_thrown hf
      rw [fX7_led_9] at hf
      refine j_aload_n (q := 10) hC dX7_led_9 rfl rfl 0 rfl ?_
      refine j_get (q := 13) hC zcl_X7 0 3 zw_904 ⟨rfl, rfl, by decide⟩ rfl rfl dX7_led_10 rfl ?_
      refine j_ifnull (q := 16) hC dX7_led_13 rfl ?_
      refine j_iload_n (q := 17) hC dX7_led_16 rfl rfl 3 rfl ?_
      refine j_bipush (q := 19) (v := 32) hC dX7_led_17 rfl (by decide) ?_
      refine j_icmp_ge (tgt := 54) (q := 22) hC dX7_led_19 (by decide) rfl hf (fun _ hf => ?_) (fun _ hf => ?_)
      · refine j_aload_n (q := 55) hC dX7_led_54 rfl rfl 0 rfl ?_
        refine j_iconst (q := 56) (v := 1) hC dX7_led_55 rfl (by decide) ?_
        refine j_put (q := 59) (host := "") hC zcl_X7 0 0 (ws' := [(q_this, .inr (6, [.int 1, .int s_trouble, .int s_where, .ref q_cache, v_read, v_tape, .int s_taped, .int s_size, .int s_spot, .int s_sort, .int s_place, .int s_number, .int s_fault, .int s_wrongAt, .long s_letters, .ref q_v0, v_x, v_past, v_kept, .int s_acts, .int s_images, .int s_ways, .int s_victims, .int s_backs, v_order, .int s_ordered, .int s_hitNow, .int s_hitsNow, v_plainLine, v_plainDirty, .int s_plainHit, .int s_plainBack, .int s_fitsNow, .int s_someNow, .int s_everyNow, v_otherIn, .int s_askLeft, .int s_drawn])), (q_v0, .inl (E.2.1 0, 609, .inl s_v0))]) zw_901 ⟨rfl, rfl, by decide, rfl⟩ rfl rfl rfl (Nat.le_of_ble_eq_true rfl) rfl dX7_led_56 rfl ?_
        refine j_iconst (q := 60) (v := 0) hC dX7_led_59 rfl (by decide) ?_
        have hx := Option.some.inj hf
        exact j_iret hC hR dX7_led_60 (by rw [← hx]) (by rw [← hx])
      · refine j_aload_n (q := 23) hC dX7_led_22 rfl rfl 0 rfl ?_
        refine j_get (q := 26) hC zcl_X7 0 15 zw_916 ⟨rfl, rfl, by decide⟩ rfl rfl dX7_led_23 rfl ?_
        refine j_sipush (q := 29) (v := 576) hC dX7_led_26 rfl (by decide) ?_
        refine j_iload_n (q := 30) hC dX7_led_29 rfl rfl 3 rfl ?_
        refine j_iadd (q := 31) hC dX7_led_30 rfl hf (fun x1 hf => ?_)
        refine j_iald (q := 32) hC 1 rfl dX7_led_31 rfl hf (fun x2 hf => ?_)
        refine j_if_ne (tgt := 38) (q := 35) hC dX7_led_32 (by decide) rfl hf (fun _ hf => ?_) (fun _ hf => ?_)
        · refine j_iload_n (q := 39) hC dX7_led_38 rfl rfl 2 rfl ?_
          refine j_iload_n (q := 40) hC dX7_led_39 rfl rfl 1 rfl ?_
          refine j_icmp_ne (tgt := 45) (q := 43) hC dX7_led_40 (by decide) rfl hf (fun _ hf => ?_) (fun _ hf => ?_)
          · refine j_iinc (q := 48) (v := 1) hC (fun x3 => [(2, .int x3), (0, .ref q_this), (1, .int b1), (3, .int b3)]) dX7_led_45 rfl 2 rfl (by decide) (by decide) (fun _ => rfl) hf (fun x3 hf => ?_)
            refine j_iinc (q := 51) (v := 1) hC (fun x4 => [(3, .int x4), (2, .int x3), (0, .ref q_this), (1, .int b1)]) dX7_led_48 rfl 3 rfl (by decide) (by decide) (fun _ => rfl) hf (fun x4 hf => ?_)
            refine j_goto (tgt := 9) hC dX7_led_51 (by decide) ?_
            refine j_sub (lv' := [(0, .ref q_this), (1, .int b1), (2, .int x3), (3, .int x4)]) [2, 3, 1, 0] rfl ?_
            exact ih b1 x3 x4 s_thrown hf
          · refine j_iload_n (q := 44) hC dX7_led_43 rfl rfl 3 rfl ?_
            have hx := Option.some.inj hf
            exact j_iret hC hR dX7_led_44 (by rw [← hx]) (by rw [← hx])
        · refine j_goto (tgt := 48) hC dX7_led_35 (by decide) ?_
          refine j_iinc (q := 51) (v := 1) hC (fun x5 => [(3, .int x5), (0, .ref q_this), (1, .int b1), (2, .int b2)]) dX7_led_48 rfl 3 rfl (by decide) (by decide) (fun _ => rfl) hf (fun x5 hf => ?_)
          refine j_goto (tgt := 9) hC dX7_led_51 (by decide) ?_
          refine j_sub (lv' := [(0, .ref q_this), (1, .int b1), (2, .int b2), (3, .int x5)]) [1, 2, 3, 0] rfl ?_
          exact ih b1 b2 x5 s_thrown hf
  unfold fX7_led at hf
  refine j_sub (lv' := [(0, .ref q_this), (1, .int a1)]) [0, 1] rfl ?_
  refine j_aload_n (q := 1) hC dX7_led_0 rfl rfl 0 rfl ?_
  refine j_iconst (q := 2) (v := 0) hC dX7_led_1 rfl (by decide) ?_
  refine j_put (q := 5) (host := "") hC zcl_X7 0 0 (ws' := [(q_this, .inr (6, [.int 0, .int s_trouble, .int s_where, .ref q_cache, v_read, v_tape, .int s_taped, .int s_size, .int s_spot, .int s_sort, .int s_place, .int s_number, .int s_fault, .int s_wrongAt, .long s_letters, .ref q_v0, v_x, v_past, v_kept, .int s_acts, .int s_images, .int s_ways, .int s_victims, .int s_backs, v_order, .int s_ordered, .int s_hitNow, .int s_hitsNow, v_plainLine, v_plainDirty, .int s_plainHit, .int s_plainBack, .int s_fitsNow, .int s_someNow, .int s_everyNow, v_otherIn, .int s_askLeft, .int s_drawn])), (q_v0, .inl (E.2.1 0, 609, .inl s_v0))]) zw_901 ⟨rfl, rfl, by decide, rfl⟩ rfl rfl rfl (Nat.le_of_ble_eq_true rfl) rfl dX7_led_2 rfl ?_
  refine j_iconst (q := 6) (v := 0) hC dX7_led_5 rfl (by decide) ?_
  refine j_istore_n (q := 7) (lv' := [(2, .int 0), (0, .ref q_this), (1, .int a1)]) hC dX7_led_6 rfl rfl (by decide) rfl ?_
  refine j_iconst (q := 8) (v := 0) hC dX7_led_7 rfl (by decide) ?_
  refine j_istore_n (q := 9) (lv' := [(3, .int 0), (2, .int 0), (0, .ref q_this), (1, .int a1)]) hC dX7_led_8 rfl rfl (by decide) rfl ?_
  refine j_sub (lv' := [(0, .ref q_this), (1, .int a1), (2, .int 0), (3, .int 0)]) [2, 3, 1, 0] rfl ?_
  exact B9  zF a1 0 0 0 hf
noncomputable def fX7_size (s_thrown : Int32) (s_taped : Int32) (s_acts : Int32) (s_images : Int32) (s_cache_sets : Int32) (s_cache_ways : Int32) (s_cache_lines : Int32) (s_cache_steps : Int32) (s_cache_unsures : Int32) (s_cache_saws : Int32) (s_cache_weighed : Int32) (a1 : Int32) : Option (Int32 × Int32) :=
  if a1 = 9 then (some (s_taped, 0))
    else ((fX7_in a1 0 8).bind fun x1 =>
    if x1 = 0 then (some ((-1), 0))
    else (if a1 = 0 then (some (s_cache_sets, 0))
    else (if a1 = 1 then (some (s_cache_ways, 0))
    else (if a1 = 2 then (if s_cache_weighed = 0 then (some (0, 0))
    else (some (1, 0)))
    else (if a1 = 3 then (some (s_cache_lines, 0))
    else (if a1 = 4 then (some (s_cache_steps, 0))
    else (if a1 = 5 then (some (s_cache_unsures, 0))
    else (if a1 = 6 then (some (s_cache_saws, 0))
    else (if a1 = 7 then (some (s_acts, 0))
    else (some (s_images, 0)))))))))))
set_option maxHeartbeats 4000000 in
set_option maxRecDepth 100000 in
theorem wX7_size (E : zE) (q_this : Nat) (q_cache : Nat) (s_thrown : Int32) (s_trouble : Int32) (s_where : Int32) (s_taped : Int32) (s_size : Int32) (s_spot : Int32) (s_sort : Int32) (s_place : Int32) (s_number : Int32) (s_fault : Int32) (s_wrongAt : Int32) (s_letters : Int64) (s_acts : Int32) (s_images : Int32) (s_ways : Int32) (s_victims : Int32) (s_backs : Int32) (s_ordered : Int32) (s_hitNow : Int32) (s_hitsNow : Int32) (s_plainHit : Int32) (s_plainBack : Int32) (s_fitsNow : Int32) (s_someNow : Int32) (s_everyNow : Int32) (s_askLeft : Int32) (s_drawn : Int32) (s_cache_sets : Int32) (s_cache_ways : Int32) (s_cache_lines : Int32) (s_cache_told : Int32) (s_cache_steps : Int32) (s_cache_unsures : Int32) (s_cache_saws : Int32) (s_cache_hit : Int32) (s_cache_weighed : Int32) (v_read : Value) (v_tape : Value) (v_v0 : Value) (v_x : Value) (v_past : Value) (v_kept : Value) (v_order : Value) (v_plainLine : Value) (v_plainDirty : Value) (v_otherIn : Value) (v_cache_memory : Value) (v_cache_line : Value) (v_cache_at : Value) (v_cache_put : Value) (v_cache_unsure : Value) (v_cache_may : Value) (v_cache_saw : Value) (a1 : Int32) (x : Int32 × Int32) (hf : fX7_size s_thrown s_taped s_acts s_images s_cache_sets s_cache_ways s_cache_lines s_cache_steps s_cache_unsures s_cache_saws s_cache_weighed a1 = some x) (l : Launch) (sz : Nat) : zM l yX7_size cX7_size 2 (some .int) { frames := 1, cells := 0, slots := 0, locals := 22 } E [.ref q_this, .int a1] [(q_this, .inr (6, [.int s_thrown, .int s_trouble, .int s_where, .ref q_cache, v_read, v_tape, .int s_taped, .int s_size, .int s_spot, .int s_sort, .int s_place, .int s_number, .int s_fault, .int s_wrongAt, .long s_letters, v_v0, v_x, v_past, v_kept, .int s_acts, .int s_images, .int s_ways, .int s_victims, .int s_backs, v_order, .int s_ordered, .int s_hitNow, .int s_hitsNow, v_plainLine, v_plainDirty, .int s_plainHit, .int s_plainBack, .int s_fitsNow, .int s_someNow, .int s_everyNow, v_otherIn, .int s_askLeft, .int s_drawn])), (q_cache, .inr (5, [.int s_cache_sets, .int s_cache_ways, .int s_cache_lines, .int s_cache_told, .int s_cache_steps, .int s_cache_unsures, .int s_cache_saws, .int s_cache_hit, .int s_cache_weighed, v_cache_memory, v_cache_line, v_cache_at, v_cache_put, v_cache_unsure, v_cache_may, v_cache_saw]))] sz (some (.int x.1)) [(q_this, .inr (6, [.int x.2, .int s_trouble, .int s_where, .ref q_cache, v_read, v_tape, .int s_taped, .int s_size, .int s_spot, .int s_sort, .int s_place, .int s_number, .int s_fault, .int s_wrongAt, .long s_letters, v_v0, v_x, v_past, v_kept, .int s_acts, .int s_images, .int s_ways, .int s_victims, .int s_backs, v_order, .int s_ordered, .int s_hitNow, .int s_hitsNow, v_plainLine, v_plainDirty, .int s_plainHit, .int s_plainBack, .int s_fitsNow, .int s_someNow, .int s_everyNow, v_otherIn, .int s_askLeft, .int s_drawn])), (q_cache, .inr (5, [.int s_cache_sets, .int s_cache_ways, .int s_cache_lines, .int s_cache_told, .int s_cache_steps, .int s_cache_unsures, .int s_cache_saws, .int s_cache_hit, .int s_cache_weighed, v_cache_memory, v_cache_line, v_cache_at, v_cache_put, v_cache_unsure, v_cache_may, v_cache_saw]))] := by
  refine zEnter (by decide) (Nat.le_of_ble_eq_true rfl) ?_
  intro C hC hR
  change zC C E cX7_size "PackedCacheModel" 2 _ at hC
  unfold fX7_size at hf
  refine j_sub (lv' := [(0, .ref q_this), (1, .int a1)]) [0, 1] rfl ?_
  refine j_aload_n (q := 1) hC dX7_size_0 rfl rfl 0 rfl ?_
  refine j_iconst (q := 2) (v := 0) hC dX7_size_1 rfl (by decide) ?_
  refine j_put (q := 5) (host := "") hC zcl_X7 0 0 (ws' := [(q_this, .inr (6, [.int 0, .int s_trouble, .int s_where, .ref q_cache, v_read, v_tape, .int s_taped, .int s_size, .int s_spot, .int s_sort, .int s_place, .int s_number, .int s_fault, .int s_wrongAt, .long s_letters, v_v0, v_x, v_past, v_kept, .int s_acts, .int s_images, .int s_ways, .int s_victims, .int s_backs, v_order, .int s_ordered, .int s_hitNow, .int s_hitsNow, v_plainLine, v_plainDirty, .int s_plainHit, .int s_plainBack, .int s_fitsNow, .int s_someNow, .int s_everyNow, v_otherIn, .int s_askLeft, .int s_drawn])), (q_cache, .inr (5, [.int s_cache_sets, .int s_cache_ways, .int s_cache_lines, .int s_cache_told, .int s_cache_steps, .int s_cache_unsures, .int s_cache_saws, .int s_cache_hit, .int s_cache_weighed, v_cache_memory, v_cache_line, v_cache_at, v_cache_put, v_cache_unsure, v_cache_may, v_cache_saw]))]) zw_901 ⟨rfl, rfl, by decide, rfl⟩ rfl rfl rfl (Nat.le_of_ble_eq_true rfl) rfl dX7_size_2 rfl ?_
  refine j_iload_n (q := 6) hC dX7_size_5 rfl rfl 1 rfl ?_
  refine j_bipush (q := 8) (v := 9) hC dX7_size_6 rfl (by decide) ?_
  refine j_icmp_ne (tgt := 16) (q := 11) hC dX7_size_8 (by decide) rfl hf (fun _ hf => ?_) (fun _ hf => ?_)
  · refine j_iload_n (q := 17) hC dX7_size_16 rfl rfl 1 rfl ?_
    refine j_iconst (q := 18) (v := 0) hC dX7_size_17 rfl (by decide) ?_
    refine j_bipush (q := 20) (v := 8) hC dX7_size_18 rfl (by decide) ?_
    refine j_callS (q := 23) hC [.int a1, .int 0, .int 8] [] (fun x1 : Int32 => some (.int x1)) (fun x1 => []) (fun x1 => [(q_this, .inr (6, [.int 0, .int s_trouble, .int s_where, .ref q_cache, v_read, v_tape, .int s_taped, .int s_size, .int s_spot, .int s_sort, .int s_place, .int s_number, .int s_fault, .int s_wrongAt, .long s_letters, v_v0, v_x, v_past, v_kept, .int s_acts, .int s_images, .int s_ways, .int s_victims, .int s_backs, v_order, .int s_ordered, .int s_hitNow, .int s_hitsNow, v_plainLine, v_plainDirty, .int s_plainHit, .int s_plainBack, .int s_fitsNow, .int s_someNow, .int s_everyNow, v_otherIn, .int s_askLeft, .int s_drawn])), (q_cache, .inr (5, [.int s_cache_sets, .int s_cache_ways, .int s_cache_lines, .int s_cache_told, .int s_cache_steps, .int s_cache_unsures, .int s_cache_saws, .int s_cache_hit, .int s_cache_weighed, v_cache_memory, v_cache_line, v_cache_at, v_cache_put, v_cache_unsure, v_cache_may, v_cache_saw]))]) (fun x1 => [.int x1]) [] [0, 1] hf (fun x1 hx => wX7_in E a1 0 8 x1  hx) zy_X7_in zw_1153 (by unfold zRm; decide) rfl rfl (fun _ => rfl) (N := 2) (by decide) (fun _ => ⟨rfl, rfl, rfl⟩) rfl (Nat.le_of_ble_eq_true rfl) dX7_size_20 rfl rfl (fun _ => rfl) (fun x1 hf => ?_)
    refine j_if_ne (tgt := 28) (q := 26) hC dX7_size_23 (by decide) rfl hf (fun _ hf => ?_) (fun _ hf => ?_)
    · refine j_aload_n (q := 29) hC dX7_size_28 rfl rfl 0 rfl ?_
      refine j_get (q := 32) hC zcl_X7 0 3 zw_904 ⟨rfl, rfl, by decide⟩ rfl rfl dX7_size_29 rfl ?_
      refine j_ifnonnull (tgt := 37) hC dX7_size_32 (by decide) ?_
      refine j_iload_n (q := 38) hC dX7_size_37 rfl rfl 1 rfl ?_
      by_cases c38_0 : a1 = 0
      · have hf := (zite_s hf).1 c38_0
        refine j_table (tgt := 84) hC dX7_size_38 (by rw [c38_0]; decide) (by rw [c38_0]; decide) (by rw [c38_0]; rfl) (by decide) ?_
        refine j_aload_n (q := 85) hC dX7_size_84 rfl rfl 0 rfl ?_
        refine j_get (q := 88) hC zcl_X7 0 3 zw_904 ⟨rfl, rfl, by decide⟩ rfl rfl dX7_size_85 rfl ?_
        refine j_getN (q := 91) hC zcl_X6 1 0 zn_1039 ⟨rfl, rfl, by decide⟩ rfl rfl dX7_size_88 rfl ?_
        have hx := Option.some.inj hf
        exact j_iret hC hR dX7_size_91 (by rw [← hx]) (by rw [← hx])
      · have hf := (zite_s hf).2 c38_0
        by_cases c38_1 : a1 = 1
        · have hf := (zite_s hf).1 c38_1
          refine j_table (tgt := 92) hC dX7_size_38 (by rw [c38_1]; decide) (by rw [c38_1]; decide) (by rw [c38_1]; rfl) (by decide) ?_
          refine j_aload_n (q := 93) hC dX7_size_92 rfl rfl 0 rfl ?_
          refine j_get (q := 96) hC zcl_X7 0 3 zw_904 ⟨rfl, rfl, by decide⟩ rfl rfl dX7_size_93 rfl ?_
          refine j_getN (q := 99) hC zcl_X6 1 1 zn_1040 ⟨rfl, rfl, by decide⟩ rfl rfl dX7_size_96 rfl ?_
          have hx := Option.some.inj hf
          exact j_iret hC hR dX7_size_99 (by rw [← hx]) (by rw [← hx])
        · have hf := (zite_s hf).2 c38_1
          by_cases c38_2 : a1 = 2
          · have hf := (zite_s hf).1 c38_2
            refine j_table (tgt := 100) hC dX7_size_38 (by rw [c38_2]; decide) (by rw [c38_2]; decide) (by rw [c38_2]; rfl) (by decide) ?_
            refine j_aload_n (q := 101) hC dX7_size_100 rfl rfl 0 rfl ?_
            refine j_get (q := 104) hC zcl_X7 0 3 zw_904 ⟨rfl, rfl, by decide⟩ rfl rfl dX7_size_101 rfl ?_
            refine j_getN (q := 107) hC zcl_X6 1 8 zn_1047 ⟨rfl, rfl, by decide⟩ rfl rfl dX7_size_104 rfl ?_
            refine j_if_eq (tgt := 114) (q := 110) hC dX7_size_107 (by decide) rfl hf (fun _ hf => ?_) (fun _ hf => ?_)
            · refine j_iconst (q := 115) (v := 0) hC dX7_size_114 rfl (by decide) ?_
              have hx := Option.some.inj hf
              exact j_iret hC hR dX7_size_115 (by rw [← hx]) (by rw [← hx])
            · refine j_iconst (q := 111) (v := 1) hC dX7_size_110 rfl (by decide) ?_
              refine j_goto (tgt := 115) hC dX7_size_111 (by decide) ?_
              have hx := Option.some.inj hf
              exact j_iret hC hR dX7_size_115 (by rw [← hx]) (by rw [← hx])
          · have hf := (zite_s hf).2 c38_2
            by_cases c38_3 : a1 = 3
            · have hf := (zite_s hf).1 c38_3
              refine j_table (tgt := 116) hC dX7_size_38 (by rw [c38_3]; decide) (by rw [c38_3]; decide) (by rw [c38_3]; rfl) (by decide) ?_
              refine j_aload_n (q := 117) hC dX7_size_116 rfl rfl 0 rfl ?_
              refine j_get (q := 120) hC zcl_X7 0 3 zw_904 ⟨rfl, rfl, by decide⟩ rfl rfl dX7_size_117 rfl ?_
              refine j_getN (q := 123) hC zcl_X6 1 2 zn_1041 ⟨rfl, rfl, by decide⟩ rfl rfl dX7_size_120 rfl ?_
              have hx := Option.some.inj hf
              exact j_iret hC hR dX7_size_123 (by rw [← hx]) (by rw [← hx])
            · have hf := (zite_s hf).2 c38_3
              by_cases c38_4 : a1 = 4
              · have hf := (zite_s hf).1 c38_4
                refine j_table (tgt := 124) hC dX7_size_38 (by rw [c38_4]; decide) (by rw [c38_4]; decide) (by rw [c38_4]; rfl) (by decide) ?_
                refine j_aload_n (q := 125) hC dX7_size_124 rfl rfl 0 rfl ?_
                refine j_get (q := 128) hC zcl_X7 0 3 zw_904 ⟨rfl, rfl, by decide⟩ rfl rfl dX7_size_125 rfl ?_
                refine j_getN (q := 131) hC zcl_X6 1 4 zn_1043 ⟨rfl, rfl, by decide⟩ rfl rfl dX7_size_128 rfl ?_
                have hx := Option.some.inj hf
                exact j_iret hC hR dX7_size_131 (by rw [← hx]) (by rw [← hx])
              · have hf := (zite_s hf).2 c38_4
                by_cases c38_5 : a1 = 5
                · have hf := (zite_s hf).1 c38_5
                  refine j_table (tgt := 132) hC dX7_size_38 (by rw [c38_5]; decide) (by rw [c38_5]; decide) (by rw [c38_5]; rfl) (by decide) ?_
                  refine j_aload_n (q := 133) hC dX7_size_132 rfl rfl 0 rfl ?_
                  refine j_get (q := 136) hC zcl_X7 0 3 zw_904 ⟨rfl, rfl, by decide⟩ rfl rfl dX7_size_133 rfl ?_
                  refine j_getN (q := 139) hC zcl_X6 1 5 zn_1044 ⟨rfl, rfl, by decide⟩ rfl rfl dX7_size_136 rfl ?_
                  have hx := Option.some.inj hf
                  exact j_iret hC hR dX7_size_139 (by rw [← hx]) (by rw [← hx])
                · have hf := (zite_s hf).2 c38_5
                  by_cases c38_6 : a1 = 6
                  · have hf := (zite_s hf).1 c38_6
                    refine j_table (tgt := 140) hC dX7_size_38 (by rw [c38_6]; decide) (by rw [c38_6]; decide) (by rw [c38_6]; rfl) (by decide) ?_
                    refine j_aload_n (q := 141) hC dX7_size_140 rfl rfl 0 rfl ?_
                    refine j_get (q := 144) hC zcl_X7 0 3 zw_904 ⟨rfl, rfl, by decide⟩ rfl rfl dX7_size_141 rfl ?_
                    refine j_getN (q := 147) hC zcl_X6 1 6 zn_1045 ⟨rfl, rfl, by decide⟩ rfl rfl dX7_size_144 rfl ?_
                    have hx := Option.some.inj hf
                    exact j_iret hC hR dX7_size_147 (by rw [← hx]) (by rw [← hx])
                  · have hf := (zite_s hf).2 c38_6
                    by_cases c38_7 : a1 = 7
                    · have hf := (zite_s hf).1 c38_7
                      refine j_table (tgt := 148) hC dX7_size_38 (by rw [c38_7]; decide) (by rw [c38_7]; decide) (by rw [c38_7]; rfl) (by decide) ?_
                      refine j_aload_n (q := 149) hC dX7_size_148 rfl rfl 0 rfl ?_
                      refine j_get (q := 152) hC zcl_X7 0 19 zw_920 ⟨rfl, rfl, by decide⟩ rfl rfl dX7_size_149 rfl ?_
                      have hx := Option.some.inj hf
                      exact j_iret hC hR dX7_size_152 (by rw [← hx]) (by rw [← hx])
                    · have hf := (zite_s hf).2 c38_7
                      have hc38_0 := lv_neT c38_0 (a := 0) (by decide)
                      have hc38_1 := lv_neT c38_1 (a := 1) (by decide)
                      have hc38_2 := lv_neT c38_2 (a := 2) (by decide)
                      have hc38_3 := lv_neT c38_3 (a := 3) (by decide)
                      have hc38_4 := lv_neT c38_4 (a := 4) (by decide)
                      have hc38_5 := lv_neT c38_5 (a := 5) (by decide)
                      have hc38_6 := lv_neT c38_6 (a := 6) (by decide)
                      have hc38_7 := lv_neT c38_7 (a := 7) (by decide)
                      refine j_tableOut (tgt := 153) hC dX7_size_38 (by omega) (by decide) ?_
                      refine j_aload_n (q := 154) hC dX7_size_153 rfl rfl 0 rfl ?_
                      refine j_get (q := 157) hC zcl_X7 0 20 zw_921 ⟨rfl, rfl, by decide⟩ rfl rfl dX7_size_154 rfl ?_
                      have hx := Option.some.inj hf
                      exact j_iret hC hR dX7_size_157 (by rw [← hx]) (by rw [← hx])
    · refine j_iconst (q := 27) (v := (-1)) hC dX7_size_26 rfl (by decide) ?_
      have hx := Option.some.inj hf
      exact j_iret hC hR dX7_size_27 (by rw [← hx]) (by rw [← hx])
  · refine j_aload_n (q := 12) hC dX7_size_11 rfl rfl 0 rfl ?_
    refine j_get (q := 15) hC zcl_X7 0 6 zw_907 ⟨rfl, rfl, by decide⟩ rfl rfl dX7_size_12 rfl ?_
    have hx := Option.some.inj hf
    exact j_iret hC hR dX7_size_15 (by rw [← hx]) (by rw [← hx])
noncomputable def fX7_trouble (s_thrown : Int32) (s_trouble : Int32) : Option (Int32 × Int32) :=
  some (s_trouble, 0)
set_option maxHeartbeats 4000000 in
set_option maxRecDepth 100000 in
theorem wX7_trouble (E : zE) (q_this : Nat) (s_thrown : Int32) (s_trouble : Int32) (s_where : Int32) (s_taped : Int32) (s_size : Int32) (s_spot : Int32) (s_sort : Int32) (s_place : Int32) (s_number : Int32) (s_fault : Int32) (s_wrongAt : Int32) (s_letters : Int64) (s_acts : Int32) (s_images : Int32) (s_ways : Int32) (s_victims : Int32) (s_backs : Int32) (s_ordered : Int32) (s_hitNow : Int32) (s_hitsNow : Int32) (s_plainHit : Int32) (s_plainBack : Int32) (s_fitsNow : Int32) (s_someNow : Int32) (s_everyNow : Int32) (s_askLeft : Int32) (s_drawn : Int32) (v_cache : Value) (v_read : Value) (v_tape : Value) (v_v0 : Value) (v_x : Value) (v_past : Value) (v_kept : Value) (v_order : Value) (v_plainLine : Value) (v_plainDirty : Value) (v_otherIn : Value) (x : Int32 × Int32) (hf : fX7_trouble s_thrown s_trouble = some x) (l : Launch) (sz : Nat) : zM l yX7_trouble cX7_trouble 1 (some .int) { frames := 0, cells := 0, slots := 0, locals := 0 } E [.ref q_this] [(q_this, .inr (6, [.int s_thrown, .int s_trouble, .int s_where, v_cache, v_read, v_tape, .int s_taped, .int s_size, .int s_spot, .int s_sort, .int s_place, .int s_number, .int s_fault, .int s_wrongAt, .long s_letters, v_v0, v_x, v_past, v_kept, .int s_acts, .int s_images, .int s_ways, .int s_victims, .int s_backs, v_order, .int s_ordered, .int s_hitNow, .int s_hitsNow, v_plainLine, v_plainDirty, .int s_plainHit, .int s_plainBack, .int s_fitsNow, .int s_someNow, .int s_everyNow, v_otherIn, .int s_askLeft, .int s_drawn]))] sz (some (.int x.1)) [(q_this, .inr (6, [.int x.2, .int s_trouble, .int s_where, v_cache, v_read, v_tape, .int s_taped, .int s_size, .int s_spot, .int s_sort, .int s_place, .int s_number, .int s_fault, .int s_wrongAt, .long s_letters, v_v0, v_x, v_past, v_kept, .int s_acts, .int s_images, .int s_ways, .int s_victims, .int s_backs, v_order, .int s_ordered, .int s_hitNow, .int s_hitsNow, v_plainLine, v_plainDirty, .int s_plainHit, .int s_plainBack, .int s_fitsNow, .int s_someNow, .int s_everyNow, v_otherIn, .int s_askLeft, .int s_drawn]))] := by
  refine zEnter (by decide) (Nat.le_of_ble_eq_true rfl) ?_
  intro C hC hR
  change zC C E cX7_trouble "PackedCacheModel" 1 _ at hC
  unfold fX7_trouble at hf
  refine j_sub (lv' := [(0, .ref q_this)]) [0] rfl ?_
  refine j_aload_n (q := 1) hC dX7_trouble_0 rfl rfl 0 rfl ?_
  refine j_iconst (q := 2) (v := 0) hC dX7_trouble_1 rfl (by decide) ?_
  refine j_put (q := 5) (host := "") hC zcl_X7 0 0 (ws' := [(q_this, .inr (6, [.int 0, .int s_trouble, .int s_where, v_cache, v_read, v_tape, .int s_taped, .int s_size, .int s_spot, .int s_sort, .int s_place, .int s_number, .int s_fault, .int s_wrongAt, .long s_letters, v_v0, v_x, v_past, v_kept, .int s_acts, .int s_images, .int s_ways, .int s_victims, .int s_backs, v_order, .int s_ordered, .int s_hitNow, .int s_hitsNow, v_plainLine, v_plainDirty, .int s_plainHit, .int s_plainBack, .int s_fitsNow, .int s_someNow, .int s_everyNow, v_otherIn, .int s_askLeft, .int s_drawn]))]) zw_901 ⟨rfl, rfl, by decide, rfl⟩ rfl rfl rfl (Nat.le_of_ble_eq_true rfl) rfl dX7_trouble_2 rfl ?_
  refine j_aload_n (q := 6) hC dX7_trouble_5 rfl rfl 0 rfl ?_
  refine j_get (q := 9) hC zcl_X7 0 1 zw_902 ⟨rfl, rfl, by decide⟩ rfl rfl dX7_trouble_6 rfl ?_
  have hx := Option.some.inj hf
  exact j_iret hC hR dX7_trouble_9 (by rw [← hx]) (by rw [← hx])
