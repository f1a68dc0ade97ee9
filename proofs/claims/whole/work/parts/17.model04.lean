noncomputable def fX7_refusesDraw (a1 : Int32) (a2 : Int32) : Option (Int32) :=
  (fX7_in a1 0 65536).bind fun x1 =>
    if x1 = 0 then (some 2)
    else ((fX7_in a2 0 200).bind fun x2 =>
    if x2 = 0 then (some 2)
    else (some 0))
set_option maxHeartbeats 4000000 in
set_option maxRecDepth 100000 in
theorem wX7_refusesDraw (E : zE) (q_this : Nat) (q_cache : Nat) (s_thrown : Int32) (s_trouble : Int32) (s_where : Int32) (s_taped : Int32) (s_size : Int32) (s_spot : Int32) (s_sort : Int32) (s_place : Int32) (s_number : Int32) (s_fault : Int32) (s_wrongAt : Int32) (s_letters : Int64) (s_acts : Int32) (s_images : Int32) (s_ways : Int32) (s_victims : Int32) (s_backs : Int32) (s_ordered : Int32) (s_hitNow : Int32) (s_hitsNow : Int32) (s_plainHit : Int32) (s_plainBack : Int32) (s_fitsNow : Int32) (s_someNow : Int32) (s_everyNow : Int32) (s_askLeft : Int32) (s_drawn : Int32) (v_read : Value) (v_tape : Value) (v_v0 : Value) (v_x : Value) (v_past : Value) (v_kept : Value) (v_order : Value) (v_plainLine : Value) (v_plainDirty : Value) (v_otherIn : Value) (a1 : Int32) (a2 : Int32) (x : Int32) (hf : fX7_refusesDraw a1 a2 = some x) (l : Launch) (sz : Nat) : zM l yX7_refusesDraw cX7_refusesDraw 3 (some .int) { frames := 1, cells := 0, slots := 0, locals := 22 } E [.ref q_this, .int a1, .int a2] [(q_this, .inr (6, [.int s_thrown, .int s_trouble, .int s_where, .ref q_cache, v_read, v_tape, .int s_taped, .int s_size, .int s_spot, .int s_sort, .int s_place, .int s_number, .int s_fault, .int s_wrongAt, .long s_letters, v_v0, v_x, v_past, v_kept, .int s_acts, .int s_images, .int s_ways, .int s_victims, .int s_backs, v_order, .int s_ordered, .int s_hitNow, .int s_hitsNow, v_plainLine, v_plainDirty, .int s_plainHit, .int s_plainBack, .int s_fitsNow, .int s_someNow, .int s_everyNow, v_otherIn, .int s_askLeft, .int s_drawn]))] sz (some (.int x)) [(q_this, .inr (6, [.int s_thrown, .int s_trouble, .int s_where, .ref q_cache, v_read, v_tape, .int s_taped, .int s_size, .int s_spot, .int s_sort, .int s_place, .int s_number, .int s_fault, .int s_wrongAt, .long s_letters, v_v0, v_x, v_past, v_kept, .int s_acts, .int s_images, .int s_ways, .int s_victims, .int s_backs, v_order, .int s_ordered, .int s_hitNow, .int s_hitsNow, v_plainLine, v_plainDirty, .int s_plainHit, .int s_plainBack, .int s_fitsNow, .int s_someNow, .int s_everyNow, v_otherIn, .int s_askLeft, .int s_drawn]))] := by
  refine zEnter (by decide) (Nat.le_of_ble_eq_true rfl) ?_
  intro C hC hR
  change zC C E cX7_refusesDraw "PackedCacheModel" 3 _ at hC
  unfold fX7_refusesDraw at hf
  refine j_sub (lv' := [(0, .ref q_this), (1, .int a1), (2, .int a2)]) [0, 1, 2] rfl ?_
  refine j_aload_n (q := 1) hC dX7_refusesDraw_0 rfl rfl 0 rfl ?_
  refine j_get (q := 4) hC zcl_X7 0 3 zw_904 ⟨rfl, rfl, by decide⟩ rfl rfl dX7_refusesDraw_1 rfl ?_
  refine j_ifnonnull (tgt := 9) hC dX7_refusesDraw_4 (by decide) ?_
  refine j_iload_n (q := 10) hC dX7_refusesDraw_9 rfl rfl 1 rfl ?_
  refine j_iconst (q := 11) (v := 0) hC dX7_refusesDraw_10 rfl (by decide) ?_
  refine j_ldcw (q := 14) hC (v := 65536) dX7_refusesDraw_11 rfl zw_1543 ?_
  refine j_callS (q := 17) hC [.int a1, .int 0, .int 65536] [] (fun x1 : Int32 => some (.int x1)) (fun x1 => []) (fun x1 => [(q_this, .inr (6, [.int s_thrown, .int s_trouble, .int s_where, .ref q_cache, v_read, v_tape, .int s_taped, .int s_size, .int s_spot, .int s_sort, .int s_place, .int s_number, .int s_fault, .int s_wrongAt, .long s_letters, v_v0, v_x, v_past, v_kept, .int s_acts, .int s_images, .int s_ways, .int s_victims, .int s_backs, v_order, .int s_ordered, .int s_hitNow, .int s_hitsNow, v_plainLine, v_plainDirty, .int s_plainHit, .int s_plainBack, .int s_fitsNow, .int s_someNow, .int s_everyNow, v_otherIn, .int s_askLeft, .int s_drawn]))]) (fun x1 => [.int x1]) [] [0] hf (fun x1 hx => wX7_in E a1 0 65536 x1  hx) zy_X7_in zw_1153 (by unfold zRm; decide) rfl rfl (fun _ => rfl) (N := 1) (by decide) (fun _ => ⟨rfl, rfl, rfl⟩) rfl (Nat.le_of_ble_eq_true rfl) dX7_refusesDraw_14 rfl rfl (fun _ => rfl) (fun x1 hf => ?_)
  refine j_if_eq (tgt := 35) (q := 20) hC dX7_refusesDraw_17 (by decide) rfl hf (fun _ hf => ?_) (fun _ hf => ?_)
  · refine j_iconst (q := 36) (v := 2) hC dX7_refusesDraw_35 rfl (by decide) ?_
    have hx := Option.some.inj hf
    exact j_iret hC hR dX7_refusesDraw_36 (by rw [← hx]) rfl
  · refine j_iload_n (q := 21) hC dX7_refusesDraw_20 rfl rfl 2 rfl ?_
    refine j_iconst (q := 22) (v := 0) hC dX7_refusesDraw_21 rfl (by decide) ?_
    refine j_sipush (q := 25) (v := 200) hC dX7_refusesDraw_22 rfl (by decide) ?_
    refine j_callS (q := 28) hC [.int a2, .int 0, .int 200] [] (fun x2 : Int32 => some (.int x2)) (fun x2 => []) (fun x2 => [(q_this, .inr (6, [.int s_thrown, .int s_trouble, .int s_where, .ref q_cache, v_read, v_tape, .int s_taped, .int s_size, .int s_spot, .int s_sort, .int s_place, .int s_number, .int s_fault, .int s_wrongAt, .long s_letters, v_v0, v_x, v_past, v_kept, .int s_acts, .int s_images, .int s_ways, .int s_victims, .int s_backs, v_order, .int s_ordered, .int s_hitNow, .int s_hitsNow, v_plainLine, v_plainDirty, .int s_plainHit, .int s_plainBack, .int s_fitsNow, .int s_someNow, .int s_everyNow, v_otherIn, .int s_askLeft, .int s_drawn]))]) (fun x2 => [.int x2]) [] [0] hf (fun x2 hx => wX7_in E a2 0 200 x2  hx) zy_X7_in zw_1153 (by unfold zRm; decide) rfl rfl (fun _ => rfl) (N := 1) (by decide) (fun _ => ⟨rfl, rfl, rfl⟩) rfl (Nat.le_of_ble_eq_true rfl) dX7_refusesDraw_25 rfl rfl (fun _ => rfl) (fun x2 hf => ?_)
    refine j_if_eq (tgt := 35) (q := 31) hC dX7_refusesDraw_28 (by decide) rfl hf (fun _ hf => ?_) (fun _ hf => ?_)
    · refine j_iconst (q := 36) (v := 2) hC dX7_refusesDraw_35 rfl (by decide) ?_
      have hx := Option.some.inj hf
      exact j_iret hC hR dX7_refusesDraw_36 (by rw [← hx]) rfl
    · refine j_iconst (q := 32) (v := 0) hC dX7_refusesDraw_31 rfl (by decide) ?_
      refine j_goto (tgt := 36) hC dX7_refusesDraw_32 (by decide) ?_
      have hx := Option.some.inj hf
      exact j_iret hC hR dX7_refusesDraw_36 (by rw [← hx]) rfl
noncomputable def fX7_remembers_52 (s_cache_ways : Int32) (s_v0 : (Nat → Int32))  : Nat → Int32 → Int32 → Int32 → Int32 → Int32 → (Nat → Int32) → (Nat → Int32) → Option (Int32 × Int32 × Int32 × Int32 × (Nat → Int32) × (Nat → Int32))
  | 0, _, _, _, _, _, _, _ => none
  | m + 1, b1, s_acts, s_ways, s_victims, s_backs, s_past, s_x =>
    if 609 ≤ b1 then (zlet (s_acts + 1 : Int32) fun x1 =>
    (fX7_works s_ways s_victims s_backs s_cache_ways s_v0 s_x).bind fun x2 =>
    some (x1, x2.1, x2.2.1, x2.2.2.1, s_past, x2.2.2.2))
    else (zlet (609 * s_acts : Int32) fun x3 =>
    zlet (x3 + b1 : Int32) fun x4 =>
    zald s_v0 609 b1 fun x5 =>
    zast s_past 9744 x4 x5 fun x6 =>
    zlet (b1 + 1) fun x7 =>
    fX7_remembers_52 s_cache_ways s_v0  m x7 s_acts s_ways s_victims s_backs x6 s_x)
noncomputable def fX7_remembers_11 (s_cache_ways : Int32) (s_v0 : (Nat → Int32))  : Nat → Int32 → Int32 → Int32 → Int32 → Int32 → (Nat → Int32) → (Nat → Int32) → Option (Int32 × Int32 × Int32 × Int32 × (Nat → Int32) × (Nat → Int32))
  | 0, _, _, _, _, _, _, _ => none
  | m + 1, b1, s_acts, s_ways, s_victims, s_backs, s_past, s_x =>
    if 9135 ≤ b1 then (zlet (s_acts - 1 : Int32) fun x1 =>
    fX7_remembers_52 s_cache_ways s_v0  zF 0 x1 s_ways s_victims s_backs s_past s_x)
    else (zlet (b1 + 609 : Int32) fun x2 =>
    zald s_past 9744 x2 fun x3 =>
    zast s_past 9744 b1 x3 fun x4 =>
    zlet (b1 + 1) fun x5 =>
    fX7_remembers_11 s_cache_ways s_v0  m x5 s_acts s_ways s_victims s_backs x4 s_x)
noncomputable def fX7_remembers (s_acts : Int32) (s_ways : Int32) (s_victims : Int32) (s_backs : Int32) (s_cache_ways : Int32) (s_past : (Nat → Int32)) (s_v0 : (Nat → Int32)) (s_x : (Nat → Int32)) : Option (Int32 × Int32 × Int32 × Int32 × (Nat → Int32) × (Nat → Int32)) :=
  if s_acts = 16 then (fX7_remembers_11 s_cache_ways s_v0  zF 0 s_acts s_ways s_victims s_backs s_past s_x)
    else (fX7_remembers_52 s_cache_ways s_v0  zF 0 s_acts s_ways s_victims s_backs s_past s_x)
set_option maxHeartbeats 4000000 in
set_option maxRecDepth 100000 in
theorem wX7_remembers (E : zE) (q_this : Nat) (q_cache : Nat) (q_past : Nat) (q_v0 : Nat) (q_x : Nat) (s_thrown : Int32) (s_trouble : Int32) (s_where : Int32) (s_taped : Int32) (s_size : Int32) (s_spot : Int32) (s_sort : Int32) (s_place : Int32) (s_number : Int32) (s_fault : Int32) (s_wrongAt : Int32) (s_letters : Int64) (s_acts : Int32) (s_images : Int32) (s_ways : Int32) (s_victims : Int32) (s_backs : Int32) (s_ordered : Int32) (s_hitNow : Int32) (s_hitsNow : Int32) (s_plainHit : Int32) (s_plainBack : Int32) (s_fitsNow : Int32) (s_someNow : Int32) (s_everyNow : Int32) (s_askLeft : Int32) (s_drawn : Int32) (s_cache_sets : Int32) (s_cache_ways : Int32) (s_cache_lines : Int32) (s_cache_told : Int32) (s_cache_steps : Int32) (s_cache_unsures : Int32) (s_cache_saws : Int32) (s_cache_hit : Int32) (s_cache_weighed : Int32) (s_past : (Nat → Int32)) (s_v0 : (Nat → Int32)) (s_x : (Nat → Int32)) (v_read : Value) (v_tape : Value) (v_kept : Value) (v_order : Value) (v_plainLine : Value) (v_plainDirty : Value) (v_otherIn : Value) (v_cache_memory : Value) (v_cache_line : Value) (v_cache_at : Value) (v_cache_put : Value) (v_cache_unsure : Value) (v_cache_may : Value) (v_cache_saw : Value) (x : Int32 × Int32 × Int32 × Int32 × (Nat → Int32) × (Nat → Int32)) (hf : fX7_remembers s_acts s_ways s_victims s_backs s_cache_ways s_past s_v0 s_x = some x) (l : Launch) (sz : Nat) : zM l yX7_remembers cX7_remembers 2 none { frames := 2, cells := 0, slots := 0, locals := 41 } E [.ref q_this] [(q_this, .inr (6, [.int s_thrown, .int s_trouble, .int s_where, .ref q_cache, v_read, v_tape, .int s_taped, .int s_size, .int s_spot, .int s_sort, .int s_place, .int s_number, .int s_fault, .int s_wrongAt, .long s_letters, .ref q_v0, .ref q_x, .ref q_past, v_kept, .int s_acts, .int s_images, .int s_ways, .int s_victims, .int s_backs, v_order, .int s_ordered, .int s_hitNow, .int s_hitsNow, v_plainLine, v_plainDirty, .int s_plainHit, .int s_plainBack, .int s_fitsNow, .int s_someNow, .int s_everyNow, v_otherIn, .int s_askLeft, .int s_drawn])), (q_cache, .inr (5, [.int s_cache_sets, .int s_cache_ways, .int s_cache_lines, .int s_cache_told, .int s_cache_steps, .int s_cache_unsures, .int s_cache_saws, .int s_cache_hit, .int s_cache_weighed, v_cache_memory, v_cache_line, v_cache_at, v_cache_put, v_cache_unsure, v_cache_may, v_cache_saw])), (q_past, .inl (E.2.1 0, 9744, .inl s_past)), (q_v0, .inl (E.2.1 0, 609, .inl s_v0)), (q_x, .inl (E.2.1 0, 609, .inl s_x))] sz none [(q_this, .inr (6, [.int s_thrown, .int s_trouble, .int s_where, .ref q_cache, v_read, v_tape, .int s_taped, .int s_size, .int s_spot, .int s_sort, .int s_place, .int s_number, .int s_fault, .int s_wrongAt, .long s_letters, .ref q_v0, .ref q_x, .ref q_past, v_kept, .int x.1, .int s_images, .int x.2.1, .int x.2.2.1, .int x.2.2.2.1, v_order, .int s_ordered, .int s_hitNow, .int s_hitsNow, v_plainLine, v_plainDirty, .int s_plainHit, .int s_plainBack, .int s_fitsNow, .int s_someNow, .int s_everyNow, v_otherIn, .int s_askLeft, .int s_drawn])), (q_cache, .inr (5, [.int s_cache_sets, .int s_cache_ways, .int s_cache_lines, .int s_cache_told, .int s_cache_steps, .int s_cache_unsures, .int s_cache_saws, .int s_cache_hit, .int s_cache_weighed, v_cache_memory, v_cache_line, v_cache_at, v_cache_put, v_cache_unsure, v_cache_may, v_cache_saw])), (q_past, .inl (E.2.1 0, 9744, .inl x.2.2.2.2.1)), (q_v0, .inl (E.2.1 0, 609, .inl s_v0)), (q_x, .inl (E.2.1 0, 609, .inl x.2.2.2.2.2))] := by
  refine zEnter (by decide) (Nat.le_of_ble_eq_true rfl) ?_
  intro C hC hR
  change zC C E cX7_remembers "PackedCacheModel" 2 _ at hC
  have B52 : ∀ (N : Nat), ∀ (b1 : Int32) (s_acts : Int32) (s_ways : Int32) (s_victims : Int32) (s_backs : Int32) (s_past : (Nat → Int32)) (s_x : (Nat → Int32)), fX7_remembers_52 s_cache_ways s_v0  N b1 s_acts s_ways s_victims s_backs s_past s_x = some x → J C 0 0 [(q_this, .inr (6, [.int s_thrown, .int s_trouble, .int s_where, .ref q_cache, v_read, v_tape, .int s_taped, .int s_size, .int s_spot, .int s_sort, .int s_place, .int s_number, .int s_fault, .int s_wrongAt, .long s_letters, .ref q_v0, .ref q_x, .ref q_past, v_kept, .int s_acts, .int s_images, .int s_ways, .int s_victims, .int s_backs, v_order, .int s_ordered, .int s_hitNow, .int s_hitsNow, v_plainLine, v_plainDirty, .int s_plainHit, .int s_plainBack, .int s_fitsNow, .int s_someNow, .int s_everyNow, v_otherIn, .int s_askLeft, .int s_drawn])), (q_cache, .inr (5, [.int s_cache_sets, .int s_cache_ways, .int s_cache_lines, .int s_cache_told, .int s_cache_steps, .int s_cache_unsures, .int s_cache_saws, .int s_cache_hit, .int s_cache_weighed, v_cache_memory, v_cache_line, v_cache_at, v_cache_put, v_cache_unsure, v_cache_may, v_cache_saw])), (q_past, .inl (E.2.1 0, 9744, .inl s_past)), (q_v0, .inl (E.2.1 0, 609, .inl s_v0)), (q_x, .inl (E.2.1 0, 609, .inl s_x))] [(0, .ref q_this), (1, .int b1)] 52 [] := by
    intro  N
    induction N with
    | zero =>
      intro b1 s_acts s_ways s_victims s_backs s_past s_x hf
      rw [fX7_remembers_52] at hf
      cases hf
    | succ m ih =>
      intro b1 s_acts s_ways s_victims s_backs s_past s_x hf
      rw [fX7_remembers_52] at hf
      refine j_iload_n (q := 53) hC dX7_remembers_52 rfl rfl 1 rfl ?_
      refine j_sipush (q := 56) (v := 609) hC dX7_remembers_53 rfl (by decide) ?_
      refine j_icmp_ge (tgt := 86) (q := 59) hC dX7_remembers_56 (by decide) rfl hf (fun _ hf => ?_) (fun _ hf => ?_)
      · refine j_aload_n (q := 87) hC dX7_remembers_86 rfl rfl 0 rfl ?_
        refine j_dup (q := 88) hC dX7_remembers_87 rfl rfl ?_
        refine j_get (q := 91) hC zcl_X7 0 19 zw_920 ⟨rfl, rfl, by decide⟩ rfl rfl dX7_remembers_88 rfl ?_
        refine j_iconst (q := 92) (v := 1) hC dX7_remembers_91 rfl (by decide) ?_
        refine j_iadd (q := 93) hC dX7_remembers_92 rfl hf (fun x1 hf => ?_)
        refine j_put (q := 96) (host := "") hC zcl_X7 0 19 (ws' := [(q_this, .inr (6, [.int s_thrown, .int s_trouble, .int s_where, .ref q_cache, v_read, v_tape, .int s_taped, .int s_size, .int s_spot, .int s_sort, .int s_place, .int s_number, .int s_fault, .int s_wrongAt, .long s_letters, .ref q_v0, .ref q_x, .ref q_past, v_kept, .int x1, .int s_images, .int s_ways, .int s_victims, .int s_backs, v_order, .int s_ordered, .int s_hitNow, .int s_hitsNow, v_plainLine, v_plainDirty, .int s_plainHit, .int s_plainBack, .int s_fitsNow, .int s_someNow, .int s_everyNow, v_otherIn, .int s_askLeft, .int s_drawn])), (q_cache, .inr (5, [.int s_cache_sets, .int s_cache_ways, .int s_cache_lines, .int s_cache_told, .int s_cache_steps, .int s_cache_unsures, .int s_cache_saws, .int s_cache_hit, .int s_cache_weighed, v_cache_memory, v_cache_line, v_cache_at, v_cache_put, v_cache_unsure, v_cache_may, v_cache_saw])), (q_past, .inl (E.2.1 0, 9744, .inl s_past)), (q_v0, .inl (E.2.1 0, 609, .inl s_v0)), (q_x, .inl (E.2.1 0, 609, .inl s_x))]) zw_920 ⟨rfl, rfl, by decide, rfl⟩ rfl rfl rfl (Nat.le_of_ble_eq_true rfl) rfl dX7_remembers_93 rfl ?_
        refine j_aload_n (q := 97) hC dX7_remembers_96 rfl rfl 0 rfl ?_
        refine j_callV (q := 100) hC [] [] (fun x2 : Int32 × Int32 × Int32 × (Nat → Int32) => none) (fun x2 => [(q_this, .inr (6, [.int s_thrown, .int s_trouble, .int s_where, .ref q_cache, v_read, v_tape, .int s_taped, .int s_size, .int s_spot, .int s_sort, .int s_place, .int s_number, .int s_fault, .int s_wrongAt, .long s_letters, .ref q_v0, .ref q_x, .ref q_past, v_kept, .int x1, .int s_images, .int x2.1, .int x2.2.1, .int x2.2.2.1, v_order, .int s_ordered, .int s_hitNow, .int s_hitsNow, v_plainLine, v_plainDirty, .int s_plainHit, .int s_plainBack, .int s_fitsNow, .int s_someNow, .int s_everyNow, v_otherIn, .int s_askLeft, .int s_drawn])), (q_cache, .inr (5, [.int s_cache_sets, .int s_cache_ways, .int s_cache_lines, .int s_cache_told, .int s_cache_steps, .int s_cache_unsures, .int s_cache_saws, .int s_cache_hit, .int s_cache_weighed, v_cache_memory, v_cache_line, v_cache_at, v_cache_put, v_cache_unsure, v_cache_may, v_cache_saw])), (q_v0, .inl (E.2.1 0, 609, .inl s_v0)), (q_x, .inl (E.2.1 0, 609, .inl x2.2.2.2))]) (fun x2 => [(q_this, .inr (6, [.int s_thrown, .int s_trouble, .int s_where, .ref q_cache, v_read, v_tape, .int s_taped, .int s_size, .int s_spot, .int s_sort, .int s_place, .int s_number, .int s_fault, .int s_wrongAt, .long s_letters, .ref q_v0, .ref q_x, .ref q_past, v_kept, .int x1, .int s_images, .int x2.1, .int x2.2.1, .int x2.2.2.1, v_order, .int s_ordered, .int s_hitNow, .int s_hitsNow, v_plainLine, v_plainDirty, .int s_plainHit, .int s_plainBack, .int s_fitsNow, .int s_someNow, .int s_everyNow, v_otherIn, .int s_askLeft, .int s_drawn])), (q_cache, .inr (5, [.int s_cache_sets, .int s_cache_ways, .int s_cache_lines, .int s_cache_told, .int s_cache_steps, .int s_cache_unsures, .int s_cache_saws, .int s_cache_hit, .int s_cache_weighed, v_cache_memory, v_cache_line, v_cache_at, v_cache_put, v_cache_unsure, v_cache_may, v_cache_saw])), (q_past, .inl (E.2.1 0, 9744, .inl s_past)), (q_v0, .inl (E.2.1 0, 609, .inl s_v0)), (q_x, .inl (E.2.1 0, 609, .inl x2.2.2.2))]) (fun x2 => []) [0, 1, 3, 4] [2] hf (fun x2 hx => wX7_works E q_this q_cache q_v0 q_x s_thrown s_trouble s_where s_taped s_size s_spot s_sort s_place s_number s_fault s_wrongAt s_letters x1 s_images s_ways s_victims s_backs s_ordered s_hitNow s_hitsNow s_plainHit s_plainBack s_fitsNow s_someNow s_everyNow s_askLeft s_drawn s_cache_sets s_cache_ways s_cache_lines s_cache_told s_cache_steps s_cache_unsures s_cache_saws s_cache_hit s_cache_weighed s_v0 s_x (v_read) (v_tape) (.ref q_past) (v_kept) (v_order) (v_plainLine) (v_plainDirty) (v_otherIn) (v_cache_memory) (v_cache_line) (v_cache_at) (v_cache_put) (v_cache_unsure) (v_cache_may) (v_cache_saw) x2  hx) zy_X7_works zw_1233 (by unfold zRm; decide) rfl rfl (fun _ => rfl) (N := 5) (by decide) (fun _ => ⟨rfl, rfl, rfl⟩) rfl rfl rfl (Nat.le_of_ble_eq_true rfl) dX7_remembers_97 rfl rfl (fun _ => rfl) (fun x2 hf => ?_)
        have hx := Option.some.inj hf
        exact j_vret hC hR dX7_remembers_100 rfl (by rw [← hx])
      · refine j_aload_n (q := 60) hC dX7_remembers_59 rfl rfl 0 rfl ?_
        refine j_get (q := 63) hC zcl_X7 0 17 zw_918 ⟨rfl, rfl, by decide⟩ rfl rfl dX7_remembers_60 rfl ?_
        refine j_sipush (q := 66) (v := 609) hC dX7_remembers_63 rfl (by decide) ?_
        refine j_aload_n (q := 67) hC dX7_remembers_66 rfl rfl 0 rfl ?_
        refine j_get (q := 70) hC zcl_X7 0 19 zw_920 ⟨rfl, rfl, by decide⟩ rfl rfl dX7_remembers_67 rfl ?_
        refine j_imul (q := 71) hC dX7_remembers_70 rfl hf (fun x3 hf => ?_)
        refine j_iload_n (q := 72) hC dX7_remembers_71 rfl rfl 1 rfl ?_
        refine j_iadd (q := 73) hC dX7_remembers_72 rfl hf (fun x4 hf => ?_)
        refine j_aload_n (q := 74) hC dX7_remembers_73 rfl rfl 0 rfl ?_
        refine j_get (q := 77) hC zcl_X7 0 15 zw_916 ⟨rfl, rfl, by decide⟩ rfl rfl dX7_remembers_74 rfl ?_
        refine j_iload_n (q := 78) hC dX7_remembers_77 rfl rfl 1 rfl ?_
        refine j_iald (q := 79) hC 3 rfl dX7_remembers_78 rfl hf (fun x5 hf => ?_)
        refine j_iast (q := 80) hC (fun x6 => [(q_this, .inr (6, [.int s_thrown, .int s_trouble, .int s_where, .ref q_cache, v_read, v_tape, .int s_taped, .int s_size, .int s_spot, .int s_sort, .int s_place, .int s_number, .int s_fault, .int s_wrongAt, .long s_letters, .ref q_v0, .ref q_x, .ref q_past, v_kept, .int s_acts, .int s_images, .int s_ways, .int s_victims, .int s_backs, v_order, .int s_ordered, .int s_hitNow, .int s_hitsNow, v_plainLine, v_plainDirty, .int s_plainHit, .int s_plainBack, .int s_fitsNow, .int s_someNow, .int s_everyNow, v_otherIn, .int s_askLeft, .int s_drawn])), (q_cache, .inr (5, [.int s_cache_sets, .int s_cache_ways, .int s_cache_lines, .int s_cache_told, .int s_cache_steps, .int s_cache_unsures, .int s_cache_saws, .int s_cache_hit, .int s_cache_weighed, v_cache_memory, v_cache_line, v_cache_at, v_cache_put, v_cache_unsure, v_cache_may, v_cache_saw])), (q_past, .inl (E.2.1 0, 9744, .inl x6)), (q_v0, .inl (E.2.1 0, 609, .inl s_v0)), (q_x, .inl (E.2.1 0, 609, .inl s_x))]) 2 rfl (fun _ => rfl) dX7_remembers_79 rfl hf (fun x6 hf => ?_)
        refine j_iinc (q := 83) (v := 1) hC (fun x7 => [(1, .int x7), (0, .ref q_this)]) dX7_remembers_80 rfl 1 rfl (by decide) (by decide) (fun _ => rfl) hf (fun x7 hf => ?_)
        refine j_goto (tgt := 52) hC dX7_remembers_83 (by decide) ?_
        refine j_sub (lv' := [(0, .ref q_this), (1, .int x7)]) [1, 0] rfl ?_
        exact ih x7 s_acts s_ways s_victims s_backs x6 s_x hf
  have B11 : ∀ (N : Nat), ∀ (b1 : Int32) (s_acts : Int32) (s_ways : Int32) (s_victims : Int32) (s_backs : Int32) (s_past : (Nat → Int32)) (s_x : (Nat → Int32)), fX7_remembers_11 s_cache_ways s_v0  N b1 s_acts s_ways s_victims s_backs s_past s_x = some x → J C 0 0 [(q_this, .inr (6, [.int s_thrown, .int s_trouble, .int s_where, .ref q_cache, v_read, v_tape, .int s_taped, .int s_size, .int s_spot, .int s_sort, .int s_place, .int s_number, .int s_fault, .int s_wrongAt, .long s_letters, .ref q_v0, .ref q_x, .ref q_past, v_kept, .int s_acts, .int s_images, .int s_ways, .int s_victims, .int s_backs, v_order, .int s_ordered, .int s_hitNow, .int s_hitsNow, v_plainLine, v_plainDirty, .int s_plainHit, .int s_plainBack, .int s_fitsNow, .int s_someNow, .int s_everyNow, v_otherIn, .int s_askLeft, .int s_drawn])), (q_cache, .inr (5, [.int s_cache_sets, .int s_cache_ways, .int s_cache_lines, .int s_cache_told, .int s_cache_steps, .int s_cache_unsures, .int s_cache_saws, .int s_cache_hit, .int s_cache_weighed, v_cache_memory, v_cache_line, v_cache_at, v_cache_put, v_cache_unsure, v_cache_may, v_cache_saw])), (q_past, .inl (E.2.1 0, 9744, .inl s_past)), (q_v0, .inl (E.2.1 0, 609, .inl s_v0)), (q_x, .inl (E.2.1 0, 609, .inl s_x))] [(0, .ref q_this), (1, .int b1)] 11 [] := by
    intro  N
    induction N with
    | zero =>
      intro b1 s_acts s_ways s_victims s_backs s_past s_x hf
      rw [fX7_remembers_11] at hf
      cases hf
    | succ m ih =>
      intro b1 s_acts s_ways s_victims s_backs s_past s_x hf
      rw [fX7_remembers_11] at hf
      refine j_iload_n (q := 12) hC dX7_remembers_11 rfl rfl 1 rfl ?_
      refine j_sipush (q := 15) (v := 9135) hC dX7_remembers_12 rfl (by decide) ?_
      refine j_icmp_ge (tgt := 40) (q := 18) hC dX7_remembers_15 (by decide) rfl hf (fun _ hf => ?_) (fun _ hf => ?_)
      · refine j_aload_n (q := 41) hC dX7_remembers_40 rfl rfl 0 rfl ?_
        refine j_dup (q := 42) hC dX7_remembers_41 rfl rfl ?_
        refine j_get (q := 45) hC zcl_X7 0 19 zw_920 ⟨rfl, rfl, by decide⟩ rfl rfl dX7_remembers_42 rfl ?_
        refine j_iconst (q := 46) (v := 1) hC dX7_remembers_45 rfl (by decide) ?_
        refine j_isub (q := 47) hC dX7_remembers_46 rfl hf (fun x1 hf => ?_)
        refine j_put (q := 50) (host := "") hC zcl_X7 0 19 (ws' := [(q_this, .inr (6, [.int s_thrown, .int s_trouble, .int s_where, .ref q_cache, v_read, v_tape, .int s_taped, .int s_size, .int s_spot, .int s_sort, .int s_place, .int s_number, .int s_fault, .int s_wrongAt, .long s_letters, .ref q_v0, .ref q_x, .ref q_past, v_kept, .int x1, .int s_images, .int s_ways, .int s_victims, .int s_backs, v_order, .int s_ordered, .int s_hitNow, .int s_hitsNow, v_plainLine, v_plainDirty, .int s_plainHit, .int s_plainBack, .int s_fitsNow, .int s_someNow, .int s_everyNow, v_otherIn, .int s_askLeft, .int s_drawn])), (q_cache, .inr (5, [.int s_cache_sets, .int s_cache_ways, .int s_cache_lines, .int s_cache_told, .int s_cache_steps, .int s_cache_unsures, .int s_cache_saws, .int s_cache_hit, .int s_cache_weighed, v_cache_memory, v_cache_line, v_cache_at, v_cache_put, v_cache_unsure, v_cache_may, v_cache_saw])), (q_past, .inl (E.2.1 0, 9744, .inl s_past)), (q_v0, .inl (E.2.1 0, 609, .inl s_v0)), (q_x, .inl (E.2.1 0, 609, .inl s_x))]) zw_920 ⟨rfl, rfl, by decide, rfl⟩ rfl rfl rfl (Nat.le_of_ble_eq_true rfl) rfl dX7_remembers_47 rfl ?_
        refine j_iconst (q := 51) (v := 0) hC dX7_remembers_50 rfl (by decide) ?_
        refine j_istore_n (q := 52) (lv' := [(1, .int 0), (0, .ref q_this)]) hC dX7_remembers_51 rfl rfl (by decide) rfl ?_
        refine j_sub (lv' := [(0, .ref q_this), (1, .int 0)]) [1, 0] rfl ?_
        exact B52  zF 0 x1 s_ways s_victims s_backs s_past s_x hf
      · refine j_aload_n (q := 19) hC dX7_remembers_18 rfl rfl 0 rfl ?_
        refine j_get (q := 22) hC zcl_X7 0 17 zw_918 ⟨rfl, rfl, by decide⟩ rfl rfl dX7_remembers_19 rfl ?_
        refine j_iload_n (q := 23) hC dX7_remembers_22 rfl rfl 1 rfl ?_
        refine j_aload_n (q := 24) hC dX7_remembers_23 rfl rfl 0 rfl ?_
        refine j_get (q := 27) hC zcl_X7 0 17 zw_918 ⟨rfl, rfl, by decide⟩ rfl rfl dX7_remembers_24 rfl ?_
        refine j_iload_n (q := 28) hC dX7_remembers_27 rfl rfl 1 rfl ?_
        refine j_sipush (q := 31) (v := 609) hC dX7_remembers_28 rfl (by decide) ?_
        refine j_iadd (q := 32) hC dX7_remembers_31 rfl hf (fun x2 hf => ?_)
        refine j_iald (q := 33) hC 2 rfl dX7_remembers_32 rfl hf (fun x3 hf => ?_)
        refine j_iast (q := 34) hC (fun x4 => [(q_this, .inr (6, [.int s_thrown, .int s_trouble, .int s_where, .ref q_cache, v_read, v_tape, .int s_taped, .int s_size, .int s_spot, .int s_sort, .int s_place, .int s_number, .int s_fault, .int s_wrongAt, .long s_letters, .ref q_v0, .ref q_x, .ref q_past, v_kept, .int s_acts, .int s_images, .int s_ways, .int s_victims, .int s_backs, v_order, .int s_ordered, .int s_hitNow, .int s_hitsNow, v_plainLine, v_plainDirty, .int s_plainHit, .int s_plainBack, .int s_fitsNow, .int s_someNow, .int s_everyNow, v_otherIn, .int s_askLeft, .int s_drawn])), (q_cache, .inr (5, [.int s_cache_sets, .int s_cache_ways, .int s_cache_lines, .int s_cache_told, .int s_cache_steps, .int s_cache_unsures, .int s_cache_saws, .int s_cache_hit, .int s_cache_weighed, v_cache_memory, v_cache_line, v_cache_at, v_cache_put, v_cache_unsure, v_cache_may, v_cache_saw])), (q_past, .inl (E.2.1 0, 9744, .inl x4)), (q_v0, .inl (E.2.1 0, 609, .inl s_v0)), (q_x, .inl (E.2.1 0, 609, .inl s_x))]) 2 rfl (fun _ => rfl) dX7_remembers_33 rfl hf (fun x4 hf => ?_)
        refine j_iinc (q := 37) (v := 1) hC (fun x5 => [(1, .int x5), (0, .ref q_this)]) dX7_remembers_34 rfl 1 rfl (by decide) (by decide) (fun _ => rfl) hf (fun x5 hf => ?_)
        refine j_goto (tgt := 11) hC dX7_remembers_37 (by decide) ?_
        refine j_sub (lv' := [(0, .ref q_this), (1, .int x5)]) [1, 0] rfl ?_
        exact ih x5 s_acts s_ways s_victims s_backs x4 s_x hf
  unfold fX7_remembers at hf
  refine j_sub (lv' := [(0, .ref q_this)]) [0] rfl ?_
  refine j_aload_n (q := 1) hC dX7_remembers_0 rfl rfl 0 rfl ?_
  refine j_get (q := 4) hC zcl_X7 0 19 zw_920 ⟨rfl, rfl, by decide⟩ rfl rfl dX7_remembers_1 rfl ?_
  refine j_bipush (q := 6) (v := 16) hC dX7_remembers_4 rfl (by decide) ?_
  refine j_icmp_ne (tgt := 50) (q := 9) hC dX7_remembers_6 (by decide) rfl hf (fun _ hf => ?_) (fun _ hf => ?_)
  · refine j_iconst (q := 51) (v := 0) hC dX7_remembers_50 rfl (by decide) ?_
    refine j_istore_n (q := 52) (lv' := [(1, .int 0), (0, .ref q_this)]) hC dX7_remembers_51 rfl rfl (by decide) rfl ?_
    refine j_sub (lv' := [(0, .ref q_this), (1, .int 0)]) [1, 0] rfl ?_
    exact B52  zF 0 s_acts s_ways s_victims s_backs s_past s_x hf
  · refine j_iconst (q := 10) (v := 0) hC dX7_remembers_9 rfl (by decide) ?_
    refine j_istore_n (q := 11) (lv' := [(1, .int 0), (0, .ref q_this)]) hC dX7_remembers_10 rfl rfl (by decide) rfl ?_
    refine j_sub (lv' := [(0, .ref q_this), (1, .int 0)]) [1, 0] rfl ?_
    exact B11  zF 0 s_acts s_ways s_victims s_backs s_past s_x hf
noncomputable def fX7_done (s_trouble : Int32) (s_where : Int32) (s_v0 : (Nat → Int32)) (s_x : (Nat → Int32)) (a1 : Int32) : Option (Int32 × Int32 × Int32 × (Nat → Int32)) :=
  (fX7_remains s_v0 s_x).bind fun x1 =>
    (fX7_good s_trouble s_where a1).bind fun x2 =>
    some (x2.1, x2.2.1, x2.2.2, x1)
set_option maxHeartbeats 4000000 in
set_option maxRecDepth 100000 in
theorem wX7_done (E : zE) (q_this : Nat) (q_v0 : Nat) (q_x : Nat) (s_thrown : Int32) (s_trouble : Int32) (s_where : Int32) (s_taped : Int32) (s_size : Int32) (s_spot : Int32) (s_sort : Int32) (s_place : Int32) (s_number : Int32) (s_fault : Int32) (s_wrongAt : Int32) (s_letters : Int64) (s_acts : Int32) (s_images : Int32) (s_ways : Int32) (s_victims : Int32) (s_backs : Int32) (s_ordered : Int32) (s_hitNow : Int32) (s_hitsNow : Int32) (s_plainHit : Int32) (s_plainBack : Int32) (s_fitsNow : Int32) (s_someNow : Int32) (s_everyNow : Int32) (s_askLeft : Int32) (s_drawn : Int32) (s_v0 : (Nat → Int32)) (s_x : (Nat → Int32)) (v_cache : Value) (v_read : Value) (v_tape : Value) (v_past : Value) (v_kept : Value) (v_order : Value) (v_plainLine : Value) (v_plainDirty : Value) (v_otherIn : Value) (a1 : Int32) (x : Int32 × Int32 × Int32 × (Nat → Int32)) (hf : fX7_done s_trouble s_where s_v0 s_x a1 = some x) (l : Launch) (sz : Nat) : zM l yX7_done cX7_done 2 (some .int) { frames := 1, cells := 0, slots := 0, locals := 21 } E [.ref q_this, .int a1] [(q_this, .inr (6, [.int s_thrown, .int s_trouble, .int s_where, v_cache, v_read, v_tape, .int s_taped, .int s_size, .int s_spot, .int s_sort, .int s_place, .int s_number, .int s_fault, .int s_wrongAt, .long s_letters, .ref q_v0, .ref q_x, v_past, v_kept, .int s_acts, .int s_images, .int s_ways, .int s_victims, .int s_backs, v_order, .int s_ordered, .int s_hitNow, .int s_hitsNow, v_plainLine, v_plainDirty, .int s_plainHit, .int s_plainBack, .int s_fitsNow, .int s_someNow, .int s_everyNow, v_otherIn, .int s_askLeft, .int s_drawn])), (q_v0, .inl (E.2.1 0, 609, .inl s_v0)), (q_x, .inl (E.2.1 0, 609, .inl s_x))] sz (some (.int x.1)) [(q_this, .inr (6, [.int s_thrown, .int x.2.1, .int x.2.2.1, v_cache, v_read, v_tape, .int s_taped, .int s_size, .int s_spot, .int s_sort, .int s_place, .int s_number, .int s_fault, .int s_wrongAt, .long s_letters, .ref q_v0, .ref q_x, v_past, v_kept, .int s_acts, .int s_images, .int s_ways, .int s_victims, .int s_backs, v_order, .int s_ordered, .int s_hitNow, .int s_hitsNow, v_plainLine, v_plainDirty, .int s_plainHit, .int s_plainBack, .int s_fitsNow, .int s_someNow, .int s_everyNow, v_otherIn, .int s_askLeft, .int s_drawn])), (q_v0, .inl (E.2.1 0, 609, .inl x.2.2.2)), (q_x, .inl (E.2.1 0, 609, .inl s_x))] := by
  refine zEnter (by decide) (Nat.le_of_ble_eq_true rfl) ?_
  intro C hC hR
  change zC C E cX7_done "PackedCacheModel" 2 _ at hC
  unfold fX7_done at hf
  refine j_sub (lv' := [(0, .ref q_this), (1, .int a1)]) [0, 1] rfl ?_
  refine j_aload_n (q := 1) hC dX7_done_0 rfl rfl 0 rfl ?_
  refine j_callV (q := 4) hC [] [] (fun x1 : (Nat → Int32) => none) (fun x1 => [(q_this, .inr (6, [.int s_thrown, .int s_trouble, .int s_where, v_cache, v_read, v_tape, .int s_taped, .int s_size, .int s_spot, .int s_sort, .int s_place, .int s_number, .int s_fault, .int s_wrongAt, .long s_letters, .ref q_v0, .ref q_x, v_past, v_kept, .int s_acts, .int s_images, .int s_ways, .int s_victims, .int s_backs, v_order, .int s_ordered, .int s_hitNow, .int s_hitsNow, v_plainLine, v_plainDirty, .int s_plainHit, .int s_plainBack, .int s_fitsNow, .int s_someNow, .int s_everyNow, v_otherIn, .int s_askLeft, .int s_drawn])), (q_v0, .inl (E.2.1 0, 609, .inl x1)), (q_x, .inl (E.2.1 0, 609, .inl s_x))]) (fun x1 => [(q_this, .inr (6, [.int s_thrown, .int s_trouble, .int s_where, v_cache, v_read, v_tape, .int s_taped, .int s_size, .int s_spot, .int s_sort, .int s_place, .int s_number, .int s_fault, .int s_wrongAt, .long s_letters, .ref q_v0, .ref q_x, v_past, v_kept, .int s_acts, .int s_images, .int s_ways, .int s_victims, .int s_backs, v_order, .int s_ordered, .int s_hitNow, .int s_hitsNow, v_plainLine, v_plainDirty, .int s_plainHit, .int s_plainBack, .int s_fitsNow, .int s_someNow, .int s_everyNow, v_otherIn, .int s_askLeft, .int s_drawn])), (q_v0, .inl (E.2.1 0, 609, .inl x1)), (q_x, .inl (E.2.1 0, 609, .inl s_x))]) (fun x1 => []) [0, 1, 2] [] hf (fun x1 hx => wX7_remains E q_this q_v0 q_x s_thrown s_trouble s_where s_taped s_size s_spot s_sort s_place s_number s_fault s_wrongAt s_letters s_acts s_images s_ways s_victims s_backs s_ordered s_hitNow s_hitsNow s_plainHit s_plainBack s_fitsNow s_someNow s_everyNow s_askLeft s_drawn s_v0 s_x (v_cache) (v_read) (v_tape) (v_past) (v_kept) (v_order) (v_plainLine) (v_plainDirty) (v_otherIn) x1  hx) zy_X7_remains zw_1205 (by unfold zRm; decide) rfl rfl (fun _ => rfl) (N := 3) (by decide) (fun _ => ⟨rfl, rfl, rfl⟩) rfl rfl rfl (Nat.le_of_ble_eq_true rfl) dX7_done_1 rfl rfl (fun _ => rfl) (fun x1 hf => ?_)
  refine j_aload_n (q := 5) hC dX7_done_4 rfl rfl 0 rfl ?_
  refine j_iload_n (q := 6) hC dX7_done_5 rfl rfl 1 rfl ?_
  refine j_callV (q := 9) hC [.int a1] [] (fun x2 : Int32 × Int32 × Int32 => some (.int x2.1)) (fun x2 => [(q_this, .inr (6, [.int s_thrown, .int x2.2.1, .int x2.2.2, v_cache, v_read, v_tape, .int s_taped, .int s_size, .int s_spot, .int s_sort, .int s_place, .int s_number, .int s_fault, .int s_wrongAt, .long s_letters, .ref q_v0, .ref q_x, v_past, v_kept, .int s_acts, .int s_images, .int s_ways, .int s_victims, .int s_backs, v_order, .int s_ordered, .int s_hitNow, .int s_hitsNow, v_plainLine, v_plainDirty, .int s_plainHit, .int s_plainBack, .int s_fitsNow, .int s_someNow, .int s_everyNow, v_otherIn, .int s_askLeft, .int s_drawn]))]) (fun x2 => [(q_this, .inr (6, [.int s_thrown, .int x2.2.1, .int x2.2.2, v_cache, v_read, v_tape, .int s_taped, .int s_size, .int s_spot, .int s_sort, .int s_place, .int s_number, .int s_fault, .int s_wrongAt, .long s_letters, .ref q_v0, .ref q_x, v_past, v_kept, .int s_acts, .int s_images, .int s_ways, .int s_victims, .int s_backs, v_order, .int s_ordered, .int s_hitNow, .int s_hitsNow, v_plainLine, v_plainDirty, .int s_plainHit, .int s_plainBack, .int s_fitsNow, .int s_someNow, .int s_everyNow, v_otherIn, .int s_askLeft, .int s_drawn])), (q_v0, .inl (E.2.1 0, 609, .inl x1)), (q_x, .inl (E.2.1 0, 609, .inl s_x))]) (fun x2 => [.int x2.1]) [0] [1, 2] hf (fun x2 hx => wX7_good E q_this s_thrown s_trouble s_where s_taped s_size s_spot s_sort s_place s_number s_fault s_wrongAt s_letters s_acts s_images s_ways s_victims s_backs s_ordered s_hitNow s_hitsNow s_plainHit s_plainBack s_fitsNow s_someNow s_everyNow s_askLeft s_drawn (v_cache) (v_read) (v_tape) (.ref q_v0) (.ref q_x) (v_past) (v_kept) (v_order) (v_plainLine) (v_plainDirty) (v_otherIn) a1 x2  hx) zy_X7_good zw_1209 (by unfold zRm; decide) rfl rfl (fun _ => rfl) (N := 3) (by decide) (fun _ => ⟨rfl, rfl, rfl⟩) rfl rfl rfl (Nat.le_of_ble_eq_true rfl) dX7_done_6 rfl rfl (fun _ => rfl) (fun x2 hf => ?_)
  have hx := Option.some.inj hf
  exact j_iret hC hR dX7_done_9 (by rw [← hx]) (by rw [← hx])
