noncomputable def fX7_byteAt (s_size : Int32) (s_tape : (Nat → Int32)) (a1 : Int32) : Option (Int32) :=
  if s_size ≤ a1 then (some (-1))
    else (zald s_tape 1200 a1 fun x1 =>
    zlet (x1 &&& 255 : Int32) fun x2 =>
    some x2)
set_option maxHeartbeats 4000000 in
set_option maxRecDepth 100000 in
theorem wX7_byteAt (E : zE) (q_this : Nat) (q_tape : Nat) (s_thrown : Int32) (s_trouble : Int32) (s_where : Int32) (s_taped : Int32) (s_size : Int32) (s_spot : Int32) (s_sort : Int32) (s_place : Int32) (s_number : Int32) (s_fault : Int32) (s_wrongAt : Int32) (s_letters : Int64) (s_acts : Int32) (s_images : Int32) (s_ways : Int32) (s_victims : Int32) (s_backs : Int32) (s_ordered : Int32) (s_hitNow : Int32) (s_hitsNow : Int32) (s_plainHit : Int32) (s_plainBack : Int32) (s_fitsNow : Int32) (s_someNow : Int32) (s_everyNow : Int32) (s_askLeft : Int32) (s_drawn : Int32) (s_tape : (Nat → Int32)) (v_cache : Value) (v_read : Value) (v_v0 : Value) (v_x : Value) (v_past : Value) (v_kept : Value) (v_order : Value) (v_plainLine : Value) (v_plainDirty : Value) (v_otherIn : Value) (a1 : Int32) (x : Int32) (hf : fX7_byteAt s_size s_tape a1 = some x) (l : Launch) (sz : Nat) : zM l yX7_byteAt cX7_byteAt 2 (some .int) { frames := 0, cells := 0, slots := 0, locals := 0 } E [.ref q_this, .int a1] [(q_this, .inr (6, [.int s_thrown, .int s_trouble, .int s_where, v_cache, v_read, .ref q_tape, .int s_taped, .int s_size, .int s_spot, .int s_sort, .int s_place, .int s_number, .int s_fault, .int s_wrongAt, .long s_letters, v_v0, v_x, v_past, v_kept, .int s_acts, .int s_images, .int s_ways, .int s_victims, .int s_backs, v_order, .int s_ordered, .int s_hitNow, .int s_hitsNow, v_plainLine, v_plainDirty, .int s_plainHit, .int s_plainBack, .int s_fitsNow, .int s_someNow, .int s_everyNow, v_otherIn, .int s_askLeft, .int s_drawn])), (q_tape, .inl (E.2.1 1, 1200, .inl s_tape))] sz (some (.int x)) [(q_this, .inr (6, [.int s_thrown, .int s_trouble, .int s_where, v_cache, v_read, .ref q_tape, .int s_taped, .int s_size, .int s_spot, .int s_sort, .int s_place, .int s_number, .int s_fault, .int s_wrongAt, .long s_letters, v_v0, v_x, v_past, v_kept, .int s_acts, .int s_images, .int s_ways, .int s_victims, .int s_backs, v_order, .int s_ordered, .int s_hitNow, .int s_hitsNow, v_plainLine, v_plainDirty, .int s_plainHit, .int s_plainBack, .int s_fitsNow, .int s_someNow, .int s_everyNow, v_otherIn, .int s_askLeft, .int s_drawn])), (q_tape, .inl (E.2.1 1, 1200, .inl s_tape))] := by
  refine zEnter (by decide) (Nat.le_of_ble_eq_true rfl) ?_
  intro C hC hR
  change zC C E cX7_byteAt "PackedCacheModel" 2 _ at hC
  unfold fX7_byteAt at hf
  refine j_sub (lv' := [(0, .ref q_this), (1, .int a1)]) [0, 1] rfl ?_
  refine j_iload_n (q := 1) hC dX7_byteAt_0 rfl rfl 1 rfl ?_
  refine j_aload_n (q := 2) hC dX7_byteAt_1 rfl rfl 0 rfl ?_
  refine j_get (q := 5) hC zcl_X7 0 7 zw_908 ⟨rfl, rfl, by decide⟩ rfl rfl dX7_byteAt_2 rfl ?_
  refine j_icmp_ge (tgt := 21) (q := 8) hC dX7_byteAt_5 (by decide) rfl hf (fun _ hf => ?_) (fun _ hf => ?_)
  · refine j_iconst (q := 22) (v := (-1)) hC dX7_byteAt_21 rfl (by decide) ?_
    have hx := Option.some.inj hf
    exact j_iret hC hR dX7_byteAt_22 (by rw [← hx]) rfl
  · refine j_aload_n (q := 9) hC dX7_byteAt_8 rfl rfl 0 rfl ?_
    refine j_get (q := 12) hC zcl_X7 0 5 zw_906 ⟨rfl, rfl, by decide⟩ rfl rfl dX7_byteAt_9 rfl ?_
    refine j_iload_n (q := 13) hC dX7_byteAt_12 rfl rfl 1 rfl ?_
    refine j_bald (q := 14) hC 1 rfl dX7_byteAt_13 rfl hf (fun x1 hf => ?_)
    refine j_sipush (q := 17) (v := 255) hC dX7_byteAt_14 rfl (by decide) ?_
    refine j_iand (q := 18) hC dX7_byteAt_17 rfl hf (fun x2 hf => ?_)
    refine j_goto (tgt := 22) hC dX7_byteAt_18 (by decide) ?_
    have hx := Option.some.inj hf
    exact j_iret hC hR dX7_byteAt_22 (by rw [← hx]) rfl
noncomputable def fX7_isLetter (a0 : Int32) : Option (Int32) :=
  if a0 < 97 then (some 0)
    else (if 122 < a0 then (some 0)
    else (some 1))
set_option maxHeartbeats 4000000 in
set_option maxRecDepth 100000 in
theorem wX7_isLetter (E : zE) (a0 : Int32) (x : Int32) (hf : fX7_isLetter a0 = some x) (l : Launch) (sz : Nat) : zM l yX7_isLetter cX7_isLetter 1 (some .boolean) { frames := 0, cells := 0, slots := 0, locals := 0 } E [.int a0] [] sz (some (.int x)) [] := by
  refine zEnter (by decide) (Nat.le_of_ble_eq_true rfl) ?_
  intro C hC hR
  change zC C E cX7_isLetter "PackedCacheModel" 1 _ at hC
  unfold fX7_isLetter at hf
  refine j_sub (lv' := [(0, .int a0)]) [0] rfl ?_
  refine j_iload_n (q := 1) hC dX7_isLetter_0 rfl rfl 0 rfl ?_
  refine j_bipush (q := 3) (v := 97) hC dX7_isLetter_1 rfl (by decide) ?_
  refine j_icmp_lt (tgt := 16) (q := 6) hC dX7_isLetter_3 (by decide) rfl hf (fun _ hf => ?_) (fun _ hf => ?_)
  · refine j_iconst (q := 17) (v := 0) hC dX7_isLetter_16 rfl (by decide) ?_
    have hx := Option.some.inj hf
    exact j_zret hC hR rfl dX7_isLetter_17 (by rw [← hx]) rfl
  · refine j_iload_n (q := 7) hC dX7_isLetter_6 rfl rfl 0 rfl ?_
    refine j_bipush (q := 9) (v := 122) hC dX7_isLetter_7 rfl (by decide) ?_
    refine j_icmp_gt (tgt := 16) (q := 12) hC dX7_isLetter_9 (by decide) rfl hf (fun _ hf => ?_) (fun _ hf => ?_)
    · refine j_iconst (q := 17) (v := 0) hC dX7_isLetter_16 rfl (by decide) ?_
      have hx := Option.some.inj hf
      exact j_zret hC hR rfl dX7_isLetter_17 (by rw [← hx]) rfl
    · refine j_iconst (q := 13) (v := 1) hC dX7_isLetter_12 rfl (by decide) ?_
      refine j_goto (tgt := 17) hC dX7_isLetter_13 (by decide) ?_
      have hx := Option.some.inj hf
      exact j_zret hC hR rfl dX7_isLetter_17 (by rw [← hx]) rfl
noncomputable def fX7_isDigit (a0 : Int32) : Option (Int32) :=
  if a0 < 48 then (some 0)
    else (if 57 < a0 then (some 0)
    else (some 1))
set_option maxHeartbeats 4000000 in
set_option maxRecDepth 100000 in
theorem wX7_isDigit (E : zE) (a0 : Int32) (x : Int32) (hf : fX7_isDigit a0 = some x) (l : Launch) (sz : Nat) : zM l yX7_isDigit cX7_isDigit 1 (some .boolean) { frames := 0, cells := 0, slots := 0, locals := 0 } E [.int a0] [] sz (some (.int x)) [] := by
  refine zEnter (by decide) (Nat.le_of_ble_eq_true rfl) ?_
  intro C hC hR
  change zC C E cX7_isDigit "PackedCacheModel" 1 _ at hC
  unfold fX7_isDigit at hf
  refine j_sub (lv' := [(0, .int a0)]) [0] rfl ?_
  refine j_iload_n (q := 1) hC dX7_isDigit_0 rfl rfl 0 rfl ?_
  refine j_bipush (q := 3) (v := 48) hC dX7_isDigit_1 rfl (by decide) ?_
  refine j_icmp_lt (tgt := 16) (q := 6) hC dX7_isDigit_3 (by decide) rfl hf (fun _ hf => ?_) (fun _ hf => ?_)
  · refine j_iconst (q := 17) (v := 0) hC dX7_isDigit_16 rfl (by decide) ?_
    have hx := Option.some.inj hf
    exact j_zret hC hR rfl dX7_isDigit_17 (by rw [← hx]) rfl
  · refine j_iload_n (q := 7) hC dX7_isDigit_6 rfl rfl 0 rfl ?_
    refine j_bipush (q := 9) (v := 57) hC dX7_isDigit_7 rfl (by decide) ?_
    refine j_icmp_gt (tgt := 16) (q := 12) hC dX7_isDigit_9 (by decide) rfl hf (fun _ hf => ?_) (fun _ hf => ?_)
    · refine j_iconst (q := 17) (v := 0) hC dX7_isDigit_16 rfl (by decide) ?_
      have hx := Option.some.inj hf
      exact j_zret hC hR rfl dX7_isDigit_17 (by rw [← hx]) rfl
    · refine j_iconst (q := 13) (v := 1) hC dX7_isDigit_12 rfl (by decide) ?_
      refine j_goto (tgt := 17) hC dX7_isDigit_13 (by decide) ?_
      have hx := Option.some.inj hf
      exact j_zret hC hR rfl dX7_isDigit_17 (by rw [← hx]) rfl
noncomputable def fX7_goesOn_215 (s_size : Int32) (s_tape : (Nat → Int32)) (K173 : Int32 → Int32 → Int32 → Int32 → Int32 → Int64 → Option (Int32 × Int32 × Int32 × Int32 × Int64)) (b2 : Int32) (s_spot : Int32) (s_sort : Int32) (s_place : Int32) (s_number : Int32) (s_letters : Int64) : Option (Int32 × Int32 × Int32 × Int32 × Int64) :=
  zlet (b2 + 1) fun x1 =>
    zlet (s_spot + 1 : Int32) fun x2 =>
    K173 x1 x2 s_sort s_place s_number s_letters
noncomputable def fX7_goesOn_173 (s_size : Int32) (s_tape : (Nat → Int32))  : Nat → Int32 → Int32 → Int32 → Int32 → Int32 → Int64 → Option (Int32 × Int32 × Int32 × Int32 × Int64)
  | 0, _, _, _, _, _, _ => none
  | m + 1, b2, s_spot, s_sort, s_place, s_number, s_letters =>
    (fX7_byteAt s_size s_tape s_spot).bind fun x1 =>
    (fX7_isDigit x1).bind fun x2 =>
    if x2 = 0 then (if 5 < b2 then (some (s_spot, s_sort, s_place, s_number, s_letters))
    else (some (s_spot, 3, s_place, s_number, s_letters)))
    else (if 5 ≤ b2 then (fX7_goesOn_215 s_size s_tape (fX7_goesOn_173 s_size s_tape  m) b2 s_spot s_sort s_place s_number s_letters)
    else (zlet (10 * s_number : Int32) fun x3 =>
    (fX7_byteAt s_size s_tape s_spot).bind fun x4 =>
    zlet (x3 + x4 : Int32) fun x5 =>
    zlet (x5 - 48 : Int32) fun x6 =>
    fX7_goesOn_215 s_size s_tape (fX7_goesOn_173 s_size s_tape  m) b2 s_spot s_sort s_place x6 s_letters))
noncomputable def fX7_goesOn_131 (s_size : Int32) (s_tape : (Nat → Int32)) (K84 : Int32 → Int32 → Int32 → Int32 → Int32 → Int64 → Option (Int32 × Int32 × Int32 × Int32 × Int64)) (b2 : Int32) (s_spot : Int32) (s_sort : Int32) (s_place : Int32) (s_number : Int32) (s_letters : Int64) : Option (Int32 × Int32 × Int32 × Int32 × Int64) :=
  zlet (b2 + 1) fun x1 =>
    zlet (s_spot + 1 : Int32) fun x2 =>
    K84 x1 x2 s_sort s_place s_number s_letters
noncomputable def fX7_goesOn_84 (s_size : Int32) (s_tape : (Nat → Int32))  : Nat → Int32 → Int32 → Int32 → Int32 → Int32 → Int64 → Option (Int32 × Int32 × Int32 × Int32 × Int64)
  | 0, _, _, _, _, _, _ => none
  | m + 1, b2, s_spot, s_sort, s_place, s_number, s_letters =>
    (fX7_byteAt s_size s_tape s_spot).bind fun x1 =>
    (fX7_isLetter x1).bind fun x2 =>
    if x2 = 0 then (if 8 < b2 then (some (s_spot, s_sort, s_place, s_number, s_letters))
    else (some (s_spot, 2, s_place, s_number, s_letters)))
    else (if 8 ≤ b2 then (fX7_goesOn_131 s_size s_tape (fX7_goesOn_84 s_size s_tape  m) b2 s_spot s_sort s_place s_number s_letters)
    else (zlet (32 * s_letters : Int64) fun x3 =>
    (fX7_byteAt s_size s_tape s_spot).bind fun x4 =>
    zlet (x4 - 97 : Int32) fun x5 =>
    zlet (x5 + 1 : Int32) fun x6 =>
    zlet (Int32.toInt64 x6 : Int64) fun x7 =>
    zlet (x3 + x7 : Int64) fun x8 =>
    fX7_goesOn_131 s_size s_tape (fX7_goesOn_84 s_size s_tape  m) b2 s_spot s_sort s_place s_number x8))
noncomputable def fX7_goesOn_9 (s_size : Int32) (s_tape : (Nat → Int32))  : Nat → Int32 → Int32 → Int32 → Int32 → Int64 → Option (Int32 × Int32 × Int32 × Int32 × Int64)
  | 0, _, _, _, _, _ => none
  | m + 1, s_spot, s_sort, s_place, s_number, s_letters =>
    (fX7_byteAt s_size s_tape s_spot).bind fun x1 =>
    if x1 = 32 then (zlet (s_spot + 1 : Int32) fun x6 =>
    fX7_goesOn_9 s_size s_tape  m x6 s_sort s_place s_number s_letters)
    else ((fX7_byteAt s_size s_tape s_spot).bind fun x2 =>
    if x2 = (-1) then (some (s_spot, 1, s_spot, s_number, s_letters))
    else ((fX7_isLetter x2).bind fun x3 =>
    if x3 = 0 then ((fX7_isDigit x2).bind fun x4 =>
    if x4 = 0 then (if x2 = 59 then (zlet (s_spot + 1 : Int32) fun x5 =>
    some (x5, 4, s_spot, s_number, s_letters))
    else (some (s_spot, 0, s_spot, s_number, s_letters)))
    else (fX7_goesOn_173 s_size s_tape  zF 0 s_spot 0 s_spot 0 s_letters))
    else (fX7_goesOn_84 s_size s_tape  zF 0 s_spot 0 s_spot s_number 0)))
noncomputable def fX7_goesOn (s_size : Int32) (s_spot : Int32) (s_sort : Int32) (s_place : Int32) (s_number : Int32) (s_letters : Int64) (s_tape : (Nat → Int32)) : Option (Int32 × Int32 × Int32 × Int32 × Int64) :=
  if s_sort = 5 then (some (s_spot, s_sort, s_place, s_number, s_letters))
    else (fX7_goesOn_9 s_size s_tape  zF s_spot s_sort s_place s_number s_letters)
set_option maxHeartbeats 4000000 in
set_option maxRecDepth 100000 in
theorem wX7_goesOn (E : zE) (q_this : Nat) (q_tape : Nat) (s_thrown : Int32) (s_trouble : Int32) (s_where : Int32) (s_taped : Int32) (s_size : Int32) (s_spot : Int32) (s_sort : Int32) (s_place : Int32) (s_number : Int32) (s_fault : Int32) (s_wrongAt : Int32) (s_letters : Int64) (s_acts : Int32) (s_images : Int32) (s_ways : Int32) (s_victims : Int32) (s_backs : Int32) (s_ordered : Int32) (s_hitNow : Int32) (s_hitsNow : Int32) (s_plainHit : Int32) (s_plainBack : Int32) (s_fitsNow : Int32) (s_someNow : Int32) (s_everyNow : Int32) (s_askLeft : Int32) (s_drawn : Int32) (s_tape : (Nat → Int32)) (v_cache : Value) (v_read : Value) (v_v0 : Value) (v_x : Value) (v_past : Value) (v_kept : Value) (v_order : Value) (v_plainLine : Value) (v_plainDirty : Value) (v_otherIn : Value) (x : Int32 × Int32 × Int32 × Int32 × Int64) (hf : fX7_goesOn s_size s_spot s_sort s_place s_number s_letters s_tape = some x) (l : Launch) (sz : Nat) : zM l yX7_goesOn cX7_goesOn 3 none { frames := 1, cells := 0, slots := 0, locals := 21 } E [.ref q_this] [(q_this, .inr (6, [.int s_thrown, .int s_trouble, .int s_where, v_cache, v_read, .ref q_tape, .int s_taped, .int s_size, .int s_spot, .int s_sort, .int s_place, .int s_number, .int s_fault, .int s_wrongAt, .long s_letters, v_v0, v_x, v_past, v_kept, .int s_acts, .int s_images, .int s_ways, .int s_victims, .int s_backs, v_order, .int s_ordered, .int s_hitNow, .int s_hitsNow, v_plainLine, v_plainDirty, .int s_plainHit, .int s_plainBack, .int s_fitsNow, .int s_someNow, .int s_everyNow, v_otherIn, .int s_askLeft, .int s_drawn])), (q_tape, .inl (E.2.1 1, 1200, .inl s_tape))] sz none [(q_this, .inr (6, [.int s_thrown, .int s_trouble, .int s_where, v_cache, v_read, .ref q_tape, .int s_taped, .int s_size, .int x.1, .int x.2.1, .int x.2.2.1, .int x.2.2.2.1, .int s_fault, .int s_wrongAt, .long x.2.2.2.2, v_v0, v_x, v_past, v_kept, .int s_acts, .int s_images, .int s_ways, .int s_victims, .int s_backs, v_order, .int s_ordered, .int s_hitNow, .int s_hitsNow, v_plainLine, v_plainDirty, .int s_plainHit, .int s_plainBack, .int s_fitsNow, .int s_someNow, .int s_everyNow, v_otherIn, .int s_askLeft, .int s_drawn])), (q_tape, .inl (E.2.1 1, 1200, .inl s_tape))] := by
  refine zEnter (by decide) (Nat.le_of_ble_eq_true rfl) ?_
  intro C hC hR
  change zC C E cX7_goesOn "PackedCacheModel" 3 _ at hC
  have B215 : ∀ (K173 : Int32 → Int32 → Int32 → Int32 → Int32 → Int64 → Option (Int32 × Int32 × Int32 × Int32 × Int64)), (∀ (b2 : Int32) (s_spot : Int32) (s_sort : Int32) (s_place : Int32) (s_number : Int32) (s_letters : Int64), K173 b2 s_spot s_sort s_place s_number s_letters = some x → J C 0 0 [(q_this, .inr (6, [.int s_thrown, .int s_trouble, .int s_where, v_cache, v_read, .ref q_tape, .int s_taped, .int s_size, .int s_spot, .int s_sort, .int s_place, .int s_number, .int s_fault, .int s_wrongAt, .long s_letters, v_v0, v_x, v_past, v_kept, .int s_acts, .int s_images, .int s_ways, .int s_victims, .int s_backs, v_order, .int s_ordered, .int s_hitNow, .int s_hitsNow, v_plainLine, v_plainDirty, .int s_plainHit, .int s_plainBack, .int s_fitsNow, .int s_someNow, .int s_everyNow, v_otherIn, .int s_askLeft, .int s_drawn])), (q_tape, .inl (E.2.1 1, 1200, .inl s_tape))] [(0, .ref q_this), (2, .int b2)] 173 []) → ∀ (b2 : Int32) (s_spot : Int32) (s_sort : Int32) (s_place : Int32) (s_number : Int32) (s_letters : Int64), fX7_goesOn_215 s_size s_tape K173 b2 s_spot s_sort s_place s_number s_letters = some x → J C 0 0 [(q_this, .inr (6, [.int s_thrown, .int s_trouble, .int s_where, v_cache, v_read, .ref q_tape, .int s_taped, .int s_size, .int s_spot, .int s_sort, .int s_place, .int s_number, .int s_fault, .int s_wrongAt, .long s_letters, v_v0, v_x, v_past, v_kept, .int s_acts, .int s_images, .int s_ways, .int s_victims, .int s_backs, v_order, .int s_ordered, .int s_hitNow, .int s_hitsNow, v_plainLine, v_plainDirty, .int s_plainHit, .int s_plainBack, .int s_fitsNow, .int s_someNow, .int s_everyNow, v_otherIn, .int s_askLeft, .int s_drawn])), (q_tape, .inl (E.2.1 1, 1200, .inl s_tape))] [(0, .ref q_this), (2, .int b2)] 215 [] := by
    intro K173 H173 b2 s_spot s_sort s_place s_number s_letters hf
    unfold fX7_goesOn_215 at hf
    refine j_iinc (q := 218) (v := 1) hC (fun x1 => [(2, .int x1), (0, .ref q_this)]) dX7_goesOn_215 rfl 1 rfl (by decide) (by decide) (fun _ => rfl) hf (fun x1 hf => ?_)
    refine j_aload_n (q := 219) hC dX7_goesOn_218 rfl rfl 1 rfl ?_
    refine j_dup (q := 220) hC dX7_goesOn_219 rfl rfl ?_
    refine j_get (q := 223) hC zcl_X7 0 8 zw_909 ⟨rfl, rfl, by decide⟩ rfl rfl dX7_goesOn_220 rfl ?_
    refine j_iconst (q := 224) (v := 1) hC dX7_goesOn_223 rfl (by decide) ?_
    refine j_iadd (q := 225) hC dX7_goesOn_224 rfl hf (fun x2 hf => ?_)
    refine j_put (q := 228) (host := "") hC zcl_X7 0 8 (ws' := [(q_this, .inr (6, [.int s_thrown, .int s_trouble, .int s_where, v_cache, v_read, .ref q_tape, .int s_taped, .int s_size, .int x2, .int s_sort, .int s_place, .int s_number, .int s_fault, .int s_wrongAt, .long s_letters, v_v0, v_x, v_past, v_kept, .int s_acts, .int s_images, .int s_ways, .int s_victims, .int s_backs, v_order, .int s_ordered, .int s_hitNow, .int s_hitsNow, v_plainLine, v_plainDirty, .int s_plainHit, .int s_plainBack, .int s_fitsNow, .int s_someNow, .int s_everyNow, v_otherIn, .int s_askLeft, .int s_drawn])), (q_tape, .inl (E.2.1 1, 1200, .inl s_tape))]) zw_909 ⟨rfl, rfl, by decide, rfl⟩ rfl rfl rfl (Nat.le_of_ble_eq_true rfl) rfl dX7_goesOn_225 rfl ?_
    refine j_goto (tgt := 173) hC dX7_goesOn_228 (by decide) ?_
    refine j_sub (lv' := [(0, .ref q_this), (2, .int x1)]) [1, 0] rfl ?_
    exact H173 x1 x2 s_sort s_place s_number s_letters hf
  have B173 : ∀ (N : Nat), ∀ (b2 : Int32) (s_spot : Int32) (s_sort : Int32) (s_place : Int32) (s_number : Int32) (s_letters : Int64), fX7_goesOn_173 s_size s_tape  N b2 s_spot s_sort s_place s_number s_letters = some x → J C 0 0 [(q_this, .inr (6, [.int s_thrown, .int s_trouble, .int s_where, v_cache, v_read, .ref q_tape, .int s_taped, .int s_size, .int s_spot, .int s_sort, .int s_place, .int s_number, .int s_fault, .int s_wrongAt, .long s_letters, v_v0, v_x, v_past, v_kept, .int s_acts, .int s_images, .int s_ways, .int s_victims, .int s_backs, v_order, .int s_ordered, .int s_hitNow, .int s_hitsNow, v_plainLine, v_plainDirty, .int s_plainHit, .int s_plainBack, .int s_fitsNow, .int s_someNow, .int s_everyNow, v_otherIn, .int s_askLeft, .int s_drawn])), (q_tape, .inl (E.2.1 1, 1200, .inl s_tape))] [(0, .ref q_this), (2, .int b2)] 173 [] := by
    intro  N
    induction N with
    | zero =>
      intro b2 s_spot s_sort s_place s_number s_letters hf
      rw [fX7_goesOn_173] at hf
      cases hf
    | succ m ih =>
      intro b2 s_spot s_sort s_place s_number s_letters hf
      rw [fX7_goesOn_173] at hf
      refine j_aload_n (q := 174) hC dX7_goesOn_173 rfl rfl 0 rfl ?_
      refine j_aload_n (q := 175) hC dX7_goesOn_174 rfl rfl 0 rfl ?_
      refine j_get (q := 178) hC zcl_X7 0 8 zw_909 ⟨rfl, rfl, by decide⟩ rfl rfl dX7_goesOn_175 rfl ?_
      refine j_callV (q := 181) hC [.int s_spot] [] (fun x1 : Int32 => some (.int x1)) (fun x1 => [(q_this, .inr (6, [.int s_thrown, .int s_trouble, .int s_where, v_cache, v_read, .ref q_tape, .int s_taped, .int s_size, .int s_spot, .int s_sort, .int s_place, .int s_number, .int s_fault, .int s_wrongAt, .long s_letters, v_v0, v_x, v_past, v_kept, .int s_acts, .int s_images, .int s_ways, .int s_victims, .int s_backs, v_order, .int s_ordered, .int s_hitNow, .int s_hitsNow, v_plainLine, v_plainDirty, .int s_plainHit, .int s_plainBack, .int s_fitsNow, .int s_someNow, .int s_everyNow, v_otherIn, .int s_askLeft, .int s_drawn])), (q_tape, .inl (E.2.1 1, 1200, .inl s_tape))]) (fun x1 => [(q_this, .inr (6, [.int s_thrown, .int s_trouble, .int s_where, v_cache, v_read, .ref q_tape, .int s_taped, .int s_size, .int s_spot, .int s_sort, .int s_place, .int s_number, .int s_fault, .int s_wrongAt, .long s_letters, v_v0, v_x, v_past, v_kept, .int s_acts, .int s_images, .int s_ways, .int s_victims, .int s_backs, v_order, .int s_ordered, .int s_hitNow, .int s_hitsNow, v_plainLine, v_plainDirty, .int s_plainHit, .int s_plainBack, .int s_fitsNow, .int s_someNow, .int s_everyNow, v_otherIn, .int s_askLeft, .int s_drawn])), (q_tape, .inl (E.2.1 1, 1200, .inl s_tape))]) (fun x1 => [.int x1]) [0, 1] [] hf (fun x1 hx => wX7_byteAt E q_this q_tape s_thrown s_trouble s_where s_taped s_size s_spot s_sort s_place s_number s_fault s_wrongAt s_letters s_acts s_images s_ways s_victims s_backs s_ordered s_hitNow s_hitsNow s_plainHit s_plainBack s_fitsNow s_someNow s_everyNow s_askLeft s_drawn s_tape (v_cache) (v_read) (v_v0) (v_x) (v_past) (v_kept) (v_order) (v_plainLine) (v_plainDirty) (v_otherIn) s_spot x1  hx) zy_X7_byteAt zw_1099 (by unfold zRm; decide) rfl rfl (fun _ => rfl) (N := 2) (by decide) (fun _ => ⟨rfl, rfl, rfl⟩) rfl rfl rfl (Nat.le_of_ble_eq_true rfl) dX7_goesOn_178 rfl rfl (fun _ => rfl) (fun x1 hf => ?_)
      refine j_callS (q := 184) hC [.int x1] [] (fun x2 : Int32 => some (.int x2)) (fun x2 => []) (fun x2 => [(q_this, .inr (6, [.int s_thrown, .int s_trouble, .int s_where, v_cache, v_read, .ref q_tape, .int s_taped, .int s_size, .int s_spot, .int s_sort, .int s_place, .int s_number, .int s_fault, .int s_wrongAt, .long s_letters, v_v0, v_x, v_past, v_kept, .int s_acts, .int s_images, .int s_ways, .int s_victims, .int s_backs, v_order, .int s_ordered, .int s_hitNow, .int s_hitsNow, v_plainLine, v_plainDirty, .int s_plainHit, .int s_plainBack, .int s_fitsNow, .int s_someNow, .int s_everyNow, v_otherIn, .int s_askLeft, .int s_drawn])), (q_tape, .inl (E.2.1 1, 1200, .inl s_tape))]) (fun x2 => [.int x2]) [] [0, 1] hf (fun x2 hx => wX7_isDigit E x1 x2  hx) zy_X7_isDigit zw_1107 (by unfold zRm; decide) rfl rfl (fun _ => rfl) (N := 2) (by decide) (fun _ => ⟨rfl, rfl, rfl⟩) rfl (Nat.le_of_ble_eq_true rfl) dX7_goesOn_181 rfl rfl (fun _ => rfl) (fun x2 hf => ?_)
      refine j_if_eq (tgt := 231) (q := 187) hC dX7_goesOn_184 (by decide) rfl hf (fun _ hf => ?_) (fun _ hf => ?_)
      · refine j_iload_n (q := 232) hC dX7_goesOn_231 rfl rfl 1 rfl ?_
        refine j_iconst (q := 233) (v := 5) hC dX7_goesOn_232 rfl (by decide) ?_
        refine j_icmp_gt (tgt := 265) (q := 236) hC dX7_goesOn_233 (by decide) rfl hf (fun _ hf => ?_) (fun _ hf => ?_)
        · have hx := Option.some.inj hf
          exact j_vret hC hR dX7_goesOn_265 rfl (by rw [← hx])
        · refine j_aload_n (q := 237) hC dX7_goesOn_236 rfl rfl 0 rfl ?_
          refine j_iconst (q := 238) (v := 3) hC dX7_goesOn_237 rfl (by decide) ?_
          refine j_put (q := 241) (host := "") hC zcl_X7 0 9 (ws' := [(q_this, .inr (6, [.int s_thrown, .int s_trouble, .int s_where, v_cache, v_read, .ref q_tape, .int s_taped, .int s_size, .int s_spot, .int 3, .int s_place, .int s_number, .int s_fault, .int s_wrongAt, .long s_letters, v_v0, v_x, v_past, v_kept, .int s_acts, .int s_images, .int s_ways, .int s_victims, .int s_backs, v_order, .int s_ordered, .int s_hitNow, .int s_hitsNow, v_plainLine, v_plainDirty, .int s_plainHit, .int s_plainBack, .int s_fitsNow, .int s_someNow, .int s_everyNow, v_otherIn, .int s_askLeft, .int s_drawn])), (q_tape, .inl (E.2.1 1, 1200, .inl s_tape))]) zw_910 ⟨rfl, rfl, by decide, rfl⟩ rfl rfl rfl (Nat.le_of_ble_eq_true rfl) rfl dX7_goesOn_238 rfl ?_
          refine j_goto (tgt := 265) hC dX7_goesOn_241 (by decide) ?_
          have hx := Option.some.inj hf
          exact j_vret hC hR dX7_goesOn_265 rfl (by rw [← hx])
      · refine j_iload_n (q := 188) hC dX7_goesOn_187 rfl rfl 1 rfl ?_
        refine j_iconst (q := 189) (v := 5) hC dX7_goesOn_188 rfl (by decide) ?_
        refine j_icmp_ge (tgt := 215) (q := 192) hC dX7_goesOn_189 (by decide) rfl hf (fun _ hf => ?_) (fun _ hf => ?_)
        · exact B215 _ ih b2 s_spot s_sort s_place s_number s_letters hf
        · refine j_aload_n (q := 193) hC dX7_goesOn_192 rfl rfl 0 rfl ?_
          refine j_bipush (q := 195) (v := 10) hC dX7_goesOn_193 rfl (by decide) ?_
          refine j_aload_n (q := 196) hC dX7_goesOn_195 rfl rfl 0 rfl ?_
          refine j_get (q := 199) hC zcl_X7 0 11 zw_912 ⟨rfl, rfl, by decide⟩ rfl rfl dX7_goesOn_196 rfl ?_
          refine j_imul (q := 200) hC dX7_goesOn_199 rfl hf (fun x3 hf => ?_)
          refine j_aload_n (q := 201) hC dX7_goesOn_200 rfl rfl 0 rfl ?_
          refine j_aload_n (q := 202) hC dX7_goesOn_201 rfl rfl 0 rfl ?_
          refine j_get (q := 205) hC zcl_X7 0 8 zw_909 ⟨rfl, rfl, by decide⟩ rfl rfl dX7_goesOn_202 rfl ?_
          refine j_callV (q := 208) hC [.int s_spot] [.int x3, .ref q_this] (fun x4 : Int32 => some (.int x4)) (fun x4 => [(q_this, .inr (6, [.int s_thrown, .int s_trouble, .int s_where, v_cache, v_read, .ref q_tape, .int s_taped, .int s_size, .int s_spot, .int s_sort, .int s_place, .int s_number, .int s_fault, .int s_wrongAt, .long s_letters, v_v0, v_x, v_past, v_kept, .int s_acts, .int s_images, .int s_ways, .int s_victims, .int s_backs, v_order, .int s_ordered, .int s_hitNow, .int s_hitsNow, v_plainLine, v_plainDirty, .int s_plainHit, .int s_plainBack, .int s_fitsNow, .int s_someNow, .int s_everyNow, v_otherIn, .int s_askLeft, .int s_drawn])), (q_tape, .inl (E.2.1 1, 1200, .inl s_tape))]) (fun x4 => [(q_this, .inr (6, [.int s_thrown, .int s_trouble, .int s_where, v_cache, v_read, .ref q_tape, .int s_taped, .int s_size, .int s_spot, .int s_sort, .int s_place, .int s_number, .int s_fault, .int s_wrongAt, .long s_letters, v_v0, v_x, v_past, v_kept, .int s_acts, .int s_images, .int s_ways, .int s_victims, .int s_backs, v_order, .int s_ordered, .int s_hitNow, .int s_hitsNow, v_plainLine, v_plainDirty, .int s_plainHit, .int s_plainBack, .int s_fitsNow, .int s_someNow, .int s_everyNow, v_otherIn, .int s_askLeft, .int s_drawn])), (q_tape, .inl (E.2.1 1, 1200, .inl s_tape))]) (fun x4 => [.int x4, .int x3, .ref q_this]) [0, 1] [] hf (fun x4 hx => wX7_byteAt E q_this q_tape s_thrown s_trouble s_where s_taped s_size s_spot s_sort s_place s_number s_fault s_wrongAt s_letters s_acts s_images s_ways s_victims s_backs s_ordered s_hitNow s_hitsNow s_plainHit s_plainBack s_fitsNow s_someNow s_everyNow s_askLeft s_drawn s_tape (v_cache) (v_read) (v_v0) (v_x) (v_past) (v_kept) (v_order) (v_plainLine) (v_plainDirty) (v_otherIn) s_spot x4  hx) zy_X7_byteAt zw_1099 (by unfold zRm; decide) rfl rfl (fun _ => rfl) (N := 2) (by decide) (fun _ => ⟨rfl, rfl, rfl⟩) rfl rfl rfl (Nat.le_of_ble_eq_true rfl) dX7_goesOn_205 rfl rfl (fun _ => rfl) (fun x4 hf => ?_)
          refine j_iadd (q := 209) hC dX7_goesOn_208 rfl hf (fun x5 hf => ?_)
          refine j_bipush (q := 211) (v := 48) hC dX7_goesOn_209 rfl (by decide) ?_
          refine j_isub (q := 212) hC dX7_goesOn_211 rfl hf (fun x6 hf => ?_)
          refine j_put (q := 215) (host := "") hC zcl_X7 0 11 (ws' := [(q_this, .inr (6, [.int s_thrown, .int s_trouble, .int s_where, v_cache, v_read, .ref q_tape, .int s_taped, .int s_size, .int s_spot, .int s_sort, .int s_place, .int x6, .int s_fault, .int s_wrongAt, .long s_letters, v_v0, v_x, v_past, v_kept, .int s_acts, .int s_images, .int s_ways, .int s_victims, .int s_backs, v_order, .int s_ordered, .int s_hitNow, .int s_hitsNow, v_plainLine, v_plainDirty, .int s_plainHit, .int s_plainBack, .int s_fitsNow, .int s_someNow, .int s_everyNow, v_otherIn, .int s_askLeft, .int s_drawn])), (q_tape, .inl (E.2.1 1, 1200, .inl s_tape))]) zw_912 ⟨rfl, rfl, by decide, rfl⟩ rfl rfl rfl (Nat.le_of_ble_eq_true rfl) rfl dX7_goesOn_212 rfl ?_
          exact B215 _ ih b2 s_spot s_sort s_place x6 s_letters hf
  have B131 : ∀ (K84 : Int32 → Int32 → Int32 → Int32 → Int32 → Int64 → Option (Int32 × Int32 × Int32 × Int32 × Int64)), (∀ (b2 : Int32) (s_spot : Int32) (s_sort : Int32) (s_place : Int32) (s_number : Int32) (s_letters : Int64), K84 b2 s_spot s_sort s_place s_number s_letters = some x → J C 0 0 [(q_this, .inr (6, [.int s_thrown, .int s_trouble, .int s_where, v_cache, v_read, .ref q_tape, .int s_taped, .int s_size, .int s_spot, .int s_sort, .int s_place, .int s_number, .int s_fault, .int s_wrongAt, .long s_letters, v_v0, v_x, v_past, v_kept, .int s_acts, .int s_images, .int s_ways, .int s_victims, .int s_backs, v_order, .int s_ordered, .int s_hitNow, .int s_hitsNow, v_plainLine, v_plainDirty, .int s_plainHit, .int s_plainBack, .int s_fitsNow, .int s_someNow, .int s_everyNow, v_otherIn, .int s_askLeft, .int s_drawn])), (q_tape, .inl (E.2.1 1, 1200, .inl s_tape))] [(0, .ref q_this), (2, .int b2)] 84 []) → ∀ (b2 : Int32) (s_spot : Int32) (s_sort : Int32) (s_place : Int32) (s_number : Int32) (s_letters : Int64), fX7_goesOn_131 s_size s_tape K84 b2 s_spot s_sort s_place s_number s_letters = some x → J C 0 0 [(q_this, .inr (6, [.int s_thrown, .int s_trouble, .int s_where, v_cache, v_read, .ref q_tape, .int s_taped, .int s_size, .int s_spot, .int s_sort, .int s_place, .int s_number, .int s_fault, .int s_wrongAt, .long s_letters, v_v0, v_x, v_past, v_kept, .int s_acts, .int s_images, .int s_ways, .int s_victims, .int s_backs, v_order, .int s_ordered, .int s_hitNow, .int s_hitsNow, v_plainLine, v_plainDirty, .int s_plainHit, .int s_plainBack, .int s_fitsNow, .int s_someNow, .int s_everyNow, v_otherIn, .int s_askLeft, .int s_drawn])), (q_tape, .inl (E.2.1 1, 1200, .inl s_tape))] [(0, .ref q_this), (2, .int b2)] 131 [] := by
    intro K84 H84 b2 s_spot s_sort s_place s_number s_letters hf
    unfold fX7_goesOn_131 at hf
    refine j_iinc (q := 134) (v := 1) hC (fun x1 => [(2, .int x1), (0, .ref q_this)]) dX7_goesOn_131 rfl 1 rfl (by decide) (by decide) (fun _ => rfl) hf (fun x1 hf => ?_)
    refine j_aload_n (q := 135) hC dX7_goesOn_134 rfl rfl 1 rfl ?_
    refine j_dup (q := 136) hC dX7_goesOn_135 rfl rfl ?_
    refine j_get (q := 139) hC zcl_X7 0 8 zw_909 ⟨rfl, rfl, by decide⟩ rfl rfl dX7_goesOn_136 rfl ?_
    refine j_iconst (q := 140) (v := 1) hC dX7_goesOn_139 rfl (by decide) ?_
    refine j_iadd (q := 141) hC dX7_goesOn_140 rfl hf (fun x2 hf => ?_)
    refine j_put (q := 144) (host := "") hC zcl_X7 0 8 (ws' := [(q_this, .inr (6, [.int s_thrown, .int s_trouble, .int s_where, v_cache, v_read, .ref q_tape, .int s_taped, .int s_size, .int x2, .int s_sort, .int s_place, .int s_number, .int s_fault, .int s_wrongAt, .long s_letters, v_v0, v_x, v_past, v_kept, .int s_acts, .int s_images, .int s_ways, .int s_victims, .int s_backs, v_order, .int s_ordered, .int s_hitNow, .int s_hitsNow, v_plainLine, v_plainDirty, .int s_plainHit, .int s_plainBack, .int s_fitsNow, .int s_someNow, .int s_everyNow, v_otherIn, .int s_askLeft, .int s_drawn])), (q_tape, .inl (E.2.1 1, 1200, .inl s_tape))]) zw_909 ⟨rfl, rfl, by decide, rfl⟩ rfl rfl rfl (Nat.le_of_ble_eq_true rfl) rfl dX7_goesOn_141 rfl ?_
    refine j_goto (tgt := 84) hC dX7_goesOn_144 (by decide) ?_
    refine j_sub (lv' := [(0, .ref q_this), (2, .int x1)]) [1, 0] rfl ?_
    exact H84 x1 x2 s_sort s_place s_number s_letters hf
  have B84 : ∀ (N : Nat), ∀ (b2 : Int32) (s_spot : Int32) (s_sort : Int32) (s_place : Int32) (s_number : Int32) (s_letters : Int64), fX7_goesOn_84 s_size s_tape  N b2 s_spot s_sort s_place s_number s_letters = some x → J C 0 0 [(q_this, .inr (6, [.int s_thrown, .int s_trouble, .int s_where, v_cache, v_read, .ref q_tape, .int s_taped, .int s_size, .int s_spot, .int s_sort, .int s_place, .int s_number, .int s_fault, .int s_wrongAt, .long s_letters, v_v0, v_x, v_past, v_kept, .int s_acts, .int s_images, .int s_ways, .int s_victims, .int s_backs, v_order, .int s_ordered, .int s_hitNow, .int s_hitsNow, v_plainLine, v_plainDirty, .int s_plainHit, .int s_plainBack, .int s_fitsNow, .int s_someNow, .int s_everyNow, v_otherIn, .int s_askLeft, .int s_drawn])), (q_tape, .inl (E.2.1 1, 1200, .inl s_tape))] [(0, .ref q_this), (2, .int b2)] 84 [] := by
    intro  N
    induction N with
    | zero =>
      intro b2 s_spot s_sort s_place s_number s_letters hf
      rw [fX7_goesOn_84] at hf
      cases hf
    | succ m ih =>
      intro b2 s_spot s_sort s_place s_number s_letters hf
      rw [fX7_goesOn_84] at hf
      refine j_aload_n (q := 85) hC dX7_goesOn_84 rfl rfl 0 rfl ?_
      refine j_aload_n (q := 86) hC dX7_goesOn_85 rfl rfl 0 rfl ?_
      refine j_get (q := 89) hC zcl_X7 0 8 zw_909 ⟨rfl, rfl, by decide⟩ rfl rfl dX7_goesOn_86 rfl ?_
      refine j_callV (q := 92) hC [.int s_spot] [] (fun x1 : Int32 => some (.int x1)) (fun x1 => [(q_this, .inr (6, [.int s_thrown, .int s_trouble, .int s_where, v_cache, v_read, .ref q_tape, .int s_taped, .int s_size, .int s_spot, .int s_sort, .int s_place, .int s_number, .int s_fault, .int s_wrongAt, .long s_letters, v_v0, v_x, v_past, v_kept, .int s_acts, .int s_images, .int s_ways, .int s_victims, .int s_backs, v_order, .int s_ordered, .int s_hitNow, .int s_hitsNow, v_plainLine, v_plainDirty, .int s_plainHit, .int s_plainBack, .int s_fitsNow, .int s_someNow, .int s_everyNow, v_otherIn, .int s_askLeft, .int s_drawn])), (q_tape, .inl (E.2.1 1, 1200, .inl s_tape))]) (fun x1 => [(q_this, .inr (6, [.int s_thrown, .int s_trouble, .int s_where, v_cache, v_read, .ref q_tape, .int s_taped, .int s_size, .int s_spot, .int s_sort, .int s_place, .int s_number, .int s_fault, .int s_wrongAt, .long s_letters, v_v0, v_x, v_past, v_kept, .int s_acts, .int s_images, .int s_ways, .int s_victims, .int s_backs, v_order, .int s_ordered, .int s_hitNow, .int s_hitsNow, v_plainLine, v_plainDirty, .int s_plainHit, .int s_plainBack, .int s_fitsNow, .int s_someNow, .int s_everyNow, v_otherIn, .int s_askLeft, .int s_drawn])), (q_tape, .inl (E.2.1 1, 1200, .inl s_tape))]) (fun x1 => [.int x1]) [0, 1] [] hf (fun x1 hx => wX7_byteAt E q_this q_tape s_thrown s_trouble s_where s_taped s_size s_spot s_sort s_place s_number s_fault s_wrongAt s_letters s_acts s_images s_ways s_victims s_backs s_ordered s_hitNow s_hitsNow s_plainHit s_plainBack s_fitsNow s_someNow s_everyNow s_askLeft s_drawn s_tape (v_cache) (v_read) (v_v0) (v_x) (v_past) (v_kept) (v_order) (v_plainLine) (v_plainDirty) (v_otherIn) s_spot x1  hx) zy_X7_byteAt zw_1099 (by unfold zRm; decide) rfl rfl (fun _ => rfl) (N := 2) (by decide) (fun _ => ⟨rfl, rfl, rfl⟩) rfl rfl rfl (Nat.le_of_ble_eq_true rfl) dX7_goesOn_89 rfl rfl (fun _ => rfl) (fun x1 hf => ?_)
      refine j_callS (q := 95) hC [.int x1] [] (fun x2 : Int32 => some (.int x2)) (fun x2 => []) (fun x2 => [(q_this, .inr (6, [.int s_thrown, .int s_trouble, .int s_where, v_cache, v_read, .ref q_tape, .int s_taped, .int s_size, .int s_spot, .int s_sort, .int s_place, .int s_number, .int s_fault, .int s_wrongAt, .long s_letters, v_v0, v_x, v_past, v_kept, .int s_acts, .int s_images, .int s_ways, .int s_victims, .int s_backs, v_order, .int s_ordered, .int s_hitNow, .int s_hitsNow, v_plainLine, v_plainDirty, .int s_plainHit, .int s_plainBack, .int s_fitsNow, .int s_someNow, .int s_everyNow, v_otherIn, .int s_askLeft, .int s_drawn])), (q_tape, .inl (E.2.1 1, 1200, .inl s_tape))]) (fun x2 => [.int x2]) [] [0, 1] hf (fun x2 hx => wX7_isLetter E x1 x2  hx) zy_X7_isLetter zw_1103 (by unfold zRm; decide) rfl rfl (fun _ => rfl) (N := 2) (by decide) (fun _ => ⟨rfl, rfl, rfl⟩) rfl (Nat.le_of_ble_eq_true rfl) dX7_goesOn_92 rfl rfl (fun _ => rfl) (fun x2 hf => ?_)
      refine j_if_eq (tgt := 147) (q := 98) hC dX7_goesOn_95 (by decide) rfl hf (fun _ hf => ?_) (fun _ hf => ?_)
      · refine j_iload_n (q := 148) hC dX7_goesOn_147 rfl rfl 1 rfl ?_
        refine j_bipush (q := 150) (v := 8) hC dX7_goesOn_148 rfl (by decide) ?_
        refine j_icmp_gt (tgt := 265) (q := 153) hC dX7_goesOn_150 (by decide) rfl hf (fun _ hf => ?_) (fun _ hf => ?_)
        · have hx := Option.some.inj hf
          exact j_vret hC hR dX7_goesOn_265 rfl (by rw [← hx])
        · refine j_aload_n (q := 154) hC dX7_goesOn_153 rfl rfl 0 rfl ?_
          refine j_iconst (q := 155) (v := 2) hC dX7_goesOn_154 rfl (by decide) ?_
          refine j_put (q := 158) (host := "") hC zcl_X7 0 9 (ws' := [(q_this, .inr (6, [.int s_thrown, .int s_trouble, .int s_where, v_cache, v_read, .ref q_tape, .int s_taped, .int s_size, .int s_spot, .int 2, .int s_place, .int s_number, .int s_fault, .int s_wrongAt, .long s_letters, v_v0, v_x, v_past, v_kept, .int s_acts, .int s_images, .int s_ways, .int s_victims, .int s_backs, v_order, .int s_ordered, .int s_hitNow, .int s_hitsNow, v_plainLine, v_plainDirty, .int s_plainHit, .int s_plainBack, .int s_fitsNow, .int s_someNow, .int s_everyNow, v_otherIn, .int s_askLeft, .int s_drawn])), (q_tape, .inl (E.2.1 1, 1200, .inl s_tape))]) zw_910 ⟨rfl, rfl, by decide, rfl⟩ rfl rfl rfl (Nat.le_of_ble_eq_true rfl) rfl dX7_goesOn_155 rfl ?_
          refine j_goto (tgt := 265) hC dX7_goesOn_158 (by decide) ?_
          have hx := Option.some.inj hf
          exact j_vret hC hR dX7_goesOn_265 rfl (by rw [← hx])
      · refine j_iload_n (q := 99) hC dX7_goesOn_98 rfl rfl 1 rfl ?_
        refine j_bipush (q := 101) (v := 8) hC dX7_goesOn_99 rfl (by decide) ?_
        refine j_icmp_ge (tgt := 131) (q := 104) hC dX7_goesOn_101 (by decide) rfl hf (fun _ hf => ?_) (fun _ hf => ?_)
        · exact B131 _ ih b2 s_spot s_sort s_place s_number s_letters hf
        · refine j_aload_n (q := 105) hC dX7_goesOn_104 rfl rfl 0 rfl ?_
          refine j_ldc2 (q := 108) hC (v := 32) dX7_goesOn_105 rfl zw_1106 ?_
          refine j_aload_n (q := 109) hC dX7_goesOn_108 rfl rfl 0 rfl ?_
          refine j_get (q := 112) hC zcl_X7 0 14 zw_915 ⟨rfl, rfl, by decide⟩ rfl rfl dX7_goesOn_109 rfl ?_
          refine j_lmul (q := 113) hC dX7_goesOn_112 rfl hf (fun x3 hf => ?_)
          refine j_aload_n (q := 114) hC dX7_goesOn_113 rfl rfl 0 rfl ?_
          refine j_aload_n (q := 115) hC dX7_goesOn_114 rfl rfl 0 rfl ?_
          refine j_get (q := 118) hC zcl_X7 0 8 zw_909 ⟨rfl, rfl, by decide⟩ rfl rfl dX7_goesOn_115 rfl ?_
          refine j_callV (q := 121) hC [.int s_spot] [.long x3, .ref q_this] (fun x4 : Int32 => some (.int x4)) (fun x4 => [(q_this, .inr (6, [.int s_thrown, .int s_trouble, .int s_where, v_cache, v_read, .ref q_tape, .int s_taped, .int s_size, .int s_spot, .int s_sort, .int s_place, .int s_number, .int s_fault, .int s_wrongAt, .long s_letters, v_v0, v_x, v_past, v_kept, .int s_acts, .int s_images, .int s_ways, .int s_victims, .int s_backs, v_order, .int s_ordered, .int s_hitNow, .int s_hitsNow, v_plainLine, v_plainDirty, .int s_plainHit, .int s_plainBack, .int s_fitsNow, .int s_someNow, .int s_everyNow, v_otherIn, .int s_askLeft, .int s_drawn])), (q_tape, .inl (E.2.1 1, 1200, .inl s_tape))]) (fun x4 => [(q_this, .inr (6, [.int s_thrown, .int s_trouble, .int s_where, v_cache, v_read, .ref q_tape, .int s_taped, .int s_size, .int s_spot, .int s_sort, .int s_place, .int s_number, .int s_fault, .int s_wrongAt, .long s_letters, v_v0, v_x, v_past, v_kept, .int s_acts, .int s_images, .int s_ways, .int s_victims, .int s_backs, v_order, .int s_ordered, .int s_hitNow, .int s_hitsNow, v_plainLine, v_plainDirty, .int s_plainHit, .int s_plainBack, .int s_fitsNow, .int s_someNow, .int s_everyNow, v_otherIn, .int s_askLeft, .int s_drawn])), (q_tape, .inl (E.2.1 1, 1200, .inl s_tape))]) (fun x4 => [.int x4, .long x3, .ref q_this]) [0, 1] [] hf (fun x4 hx => wX7_byteAt E q_this q_tape s_thrown s_trouble s_where s_taped s_size s_spot s_sort s_place s_number s_fault s_wrongAt s_letters s_acts s_images s_ways s_victims s_backs s_ordered s_hitNow s_hitsNow s_plainHit s_plainBack s_fitsNow s_someNow s_everyNow s_askLeft s_drawn s_tape (v_cache) (v_read) (v_v0) (v_x) (v_past) (v_kept) (v_order) (v_plainLine) (v_plainDirty) (v_otherIn) s_spot x4  hx) zy_X7_byteAt zw_1099 (by unfold zRm; decide) rfl rfl (fun _ => rfl) (N := 2) (by decide) (fun _ => ⟨rfl, rfl, rfl⟩) rfl rfl rfl (Nat.le_of_ble_eq_true rfl) dX7_goesOn_118 rfl rfl (fun _ => rfl) (fun x4 hf => ?_)
          refine j_bipush (q := 123) (v := 97) hC dX7_goesOn_121 rfl (by decide) ?_
          refine j_isub (q := 124) hC dX7_goesOn_123 rfl hf (fun x5 hf => ?_)
          refine j_iconst (q := 125) (v := 1) hC dX7_goesOn_124 rfl (by decide) ?_
          refine j_iadd (q := 126) hC dX7_goesOn_125 rfl hf (fun x6 hf => ?_)
          refine j_i2l (q := 127) hC dX7_goesOn_126 rfl hf (fun x7 hf => ?_)
          refine j_ladd (q := 128) hC dX7_goesOn_127 rfl hf (fun x8 hf => ?_)
          refine j_put (q := 131) (host := "") hC zcl_X7 0 14 (ws' := [(q_this, .inr (6, [.int s_thrown, .int s_trouble, .int s_where, v_cache, v_read, .ref q_tape, .int s_taped, .int s_size, .int s_spot, .int s_sort, .int s_place, .int s_number, .int s_fault, .int s_wrongAt, .long x8, v_v0, v_x, v_past, v_kept, .int s_acts, .int s_images, .int s_ways, .int s_victims, .int s_backs, v_order, .int s_ordered, .int s_hitNow, .int s_hitsNow, v_plainLine, v_plainDirty, .int s_plainHit, .int s_plainBack, .int s_fitsNow, .int s_someNow, .int s_everyNow, v_otherIn, .int s_askLeft, .int s_drawn])), (q_tape, .inl (E.2.1 1, 1200, .inl s_tape))]) zw_915 ⟨rfl, rfl, by decide, rfl⟩ rfl rfl rfl (Nat.le_of_ble_eq_true rfl) rfl dX7_goesOn_128 rfl ?_
          exact B131 _ ih b2 s_spot s_sort s_place s_number x8 hf
  have B9 : ∀ (N : Nat), ∀ (s_spot : Int32) (s_sort : Int32) (s_place : Int32) (s_number : Int32) (s_letters : Int64), fX7_goesOn_9 s_size s_tape  N s_spot s_sort s_place s_number s_letters = some x → J C 0 0 [(q_this, .inr (6, [.int s_thrown, .int s_trouble, .int s_where, v_cache, v_read, .ref q_tape, .int s_taped, .int s_size, .int s_spot, .int s_sort, .int s_place, .int s_number, .int s_fault, .int s_wrongAt, .long s_letters, v_v0, v_x, v_past, v_kept, .int s_acts, .int s_images, .int s_ways, .int s_victims, .int s_backs, v_order, .int s_ordered, .int s_hitNow, .int s_hitsNow, v_plainLine, v_plainDirty, .int s_plainHit, .int s_plainBack, .int s_fitsNow, .int s_someNow, .int s_everyNow, v_otherIn, .int s_askLeft, .int s_drawn])), (q_tape, .inl (E.2.1 1, 1200, .inl s_tape))] [(0, .ref q_this)] 9 [] := by
    intro  N
    induction N with
    | zero =>
      intro s_spot s_sort s_place s_number s_letters hf
      rw [fX7_goesOn_9] at hf
      cases hf
    | succ m ih =>
      intro s_spot s_sort s_place s_number s_letters hf
      rw [fX7_goesOn_9] at hf
      refine j_aload_n (q := 10) hC dX7_goesOn_9 rfl rfl 0 rfl ?_
      refine j_aload_n (q := 11) hC dX7_goesOn_10 rfl rfl 0 rfl ?_
      refine j_get (q := 14) hC zcl_X7 0 8 zw_909 ⟨rfl, rfl, by decide⟩ rfl rfl dX7_goesOn_11 rfl ?_
      refine j_callV (q := 17) hC [.int s_spot] [] (fun x1 : Int32 => some (.int x1)) (fun x1 => [(q_this, .inr (6, [.int s_thrown, .int s_trouble, .int s_where, v_cache, v_read, .ref q_tape, .int s_taped, .int s_size, .int s_spot, .int s_sort, .int s_place, .int s_number, .int s_fault, .int s_wrongAt, .long s_letters, v_v0, v_x, v_past, v_kept, .int s_acts, .int s_images, .int s_ways, .int s_victims, .int s_backs, v_order, .int s_ordered, .int s_hitNow, .int s_hitsNow, v_plainLine, v_plainDirty, .int s_plainHit, .int s_plainBack, .int s_fitsNow, .int s_someNow, .int s_everyNow, v_otherIn, .int s_askLeft, .int s_drawn])), (q_tape, .inl (E.2.1 1, 1200, .inl s_tape))]) (fun x1 => [(q_this, .inr (6, [.int s_thrown, .int s_trouble, .int s_where, v_cache, v_read, .ref q_tape, .int s_taped, .int s_size, .int s_spot, .int s_sort, .int s_place, .int s_number, .int s_fault, .int s_wrongAt, .long s_letters, v_v0, v_x, v_past, v_kept, .int s_acts, .int s_images, .int s_ways, .int s_victims, .int s_backs, v_order, .int s_ordered, .int s_hitNow, .int s_hitsNow, v_plainLine, v_plainDirty, .int s_plainHit, .int s_plainBack, .int s_fitsNow, .int s_someNow, .int s_everyNow, v_otherIn, .int s_askLeft, .int s_drawn])), (q_tape, .inl (E.2.1 1, 1200, .inl s_tape))]) (fun x1 => [.int x1]) [0, 1] [] hf (fun x1 hx => wX7_byteAt E q_this q_tape s_thrown s_trouble s_where s_taped s_size s_spot s_sort s_place s_number s_fault s_wrongAt s_letters s_acts s_images s_ways s_victims s_backs s_ordered s_hitNow s_hitsNow s_plainHit s_plainBack s_fitsNow s_someNow s_everyNow s_askLeft s_drawn s_tape (v_cache) (v_read) (v_v0) (v_x) (v_past) (v_kept) (v_order) (v_plainLine) (v_plainDirty) (v_otherIn) s_spot x1  hx) zy_X7_byteAt zw_1099 (by unfold zRm; decide) rfl rfl (fun _ => rfl) (N := 2) (by decide) (fun _ => ⟨rfl, rfl, rfl⟩) rfl rfl rfl (Nat.le_of_ble_eq_true rfl) dX7_goesOn_14 rfl rfl (fun _ => rfl) (fun x1 hf => ?_)
      refine j_bipush (q := 19) (v := 32) hC dX7_goesOn_17 rfl (by decide) ?_
      refine j_icmp_ne (tgt := 35) (q := 22) hC dX7_goesOn_19 (by decide) rfl hf (fun _ hf => ?_) (fun _ hf => ?_)
      · refine j_aload_n (q := 36) hC dX7_goesOn_35 rfl rfl 0 rfl ?_
        refine j_aload_n (q := 37) hC dX7_goesOn_36 rfl rfl 0 rfl ?_
        refine j_get (q := 40) hC zcl_X7 0 8 zw_909 ⟨rfl, rfl, by decide⟩ rfl rfl dX7_goesOn_37 rfl ?_
        refine j_put (q := 43) (host := "") hC zcl_X7 0 10 (ws' := [(q_this, .inr (6, [.int s_thrown, .int s_trouble, .int s_where, v_cache, v_read, .ref q_tape, .int s_taped, .int s_size, .int s_spot, .int s_sort, .int s_spot, .int s_number, .int s_fault, .int s_wrongAt, .long s_letters, v_v0, v_x, v_past, v_kept, .int s_acts, .int s_images, .int s_ways, .int s_victims, .int s_backs, v_order, .int s_ordered, .int s_hitNow, .int s_hitsNow, v_plainLine, v_plainDirty, .int s_plainHit, .int s_plainBack, .int s_fitsNow, .int s_someNow, .int s_everyNow, v_otherIn, .int s_askLeft, .int s_drawn])), (q_tape, .inl (E.2.1 1, 1200, .inl s_tape))]) zw_911 ⟨rfl, rfl, by decide, rfl⟩ rfl rfl rfl (Nat.le_of_ble_eq_true rfl) rfl dX7_goesOn_40 rfl ?_
        refine j_aload_n (q := 44) hC dX7_goesOn_43 rfl rfl 0 rfl ?_
        refine j_iconst (q := 45) (v := 0) hC dX7_goesOn_44 rfl (by decide) ?_
        refine j_put (q := 48) (host := "") hC zcl_X7 0 9 (ws' := [(q_this, .inr (6, [.int s_thrown, .int s_trouble, .int s_where, v_cache, v_read, .ref q_tape, .int s_taped, .int s_size, .int s_spot, .int 0, .int s_spot, .int s_number, .int s_fault, .int s_wrongAt, .long s_letters, v_v0, v_x, v_past, v_kept, .int s_acts, .int s_images, .int s_ways, .int s_victims, .int s_backs, v_order, .int s_ordered, .int s_hitNow, .int s_hitsNow, v_plainLine, v_plainDirty, .int s_plainHit, .int s_plainBack, .int s_fitsNow, .int s_someNow, .int s_everyNow, v_otherIn, .int s_askLeft, .int s_drawn])), (q_tape, .inl (E.2.1 1, 1200, .inl s_tape))]) zw_910 ⟨rfl, rfl, by decide, rfl⟩ rfl rfl rfl (Nat.le_of_ble_eq_true rfl) rfl dX7_goesOn_45 rfl ?_
        refine j_aload_n (q := 49) hC dX7_goesOn_48 rfl rfl 0 rfl ?_
        refine j_aload_n (q := 50) hC dX7_goesOn_49 rfl rfl 0 rfl ?_
        refine j_get (q := 53) hC zcl_X7 0 8 zw_909 ⟨rfl, rfl, by decide⟩ rfl rfl dX7_goesOn_50 rfl ?_
        refine j_callV (q := 56) hC [.int s_spot] [] (fun x2 : Int32 => some (.int x2)) (fun x2 => [(q_this, .inr (6, [.int s_thrown, .int s_trouble, .int s_where, v_cache, v_read, .ref q_tape, .int s_taped, .int s_size, .int s_spot, .int 0, .int s_spot, .int s_number, .int s_fault, .int s_wrongAt, .long s_letters, v_v0, v_x, v_past, v_kept, .int s_acts, .int s_images, .int s_ways, .int s_victims, .int s_backs, v_order, .int s_ordered, .int s_hitNow, .int s_hitsNow, v_plainLine, v_plainDirty, .int s_plainHit, .int s_plainBack, .int s_fitsNow, .int s_someNow, .int s_everyNow, v_otherIn, .int s_askLeft, .int s_drawn])), (q_tape, .inl (E.2.1 1, 1200, .inl s_tape))]) (fun x2 => [(q_this, .inr (6, [.int s_thrown, .int s_trouble, .int s_where, v_cache, v_read, .ref q_tape, .int s_taped, .int s_size, .int s_spot, .int 0, .int s_spot, .int s_number, .int s_fault, .int s_wrongAt, .long s_letters, v_v0, v_x, v_past, v_kept, .int s_acts, .int s_images, .int s_ways, .int s_victims, .int s_backs, v_order, .int s_ordered, .int s_hitNow, .int s_hitsNow, v_plainLine, v_plainDirty, .int s_plainHit, .int s_plainBack, .int s_fitsNow, .int s_someNow, .int s_everyNow, v_otherIn, .int s_askLeft, .int s_drawn])), (q_tape, .inl (E.2.1 1, 1200, .inl s_tape))]) (fun x2 => [.int x2]) [0, 1] [] hf (fun x2 hx => wX7_byteAt E q_this q_tape s_thrown s_trouble s_where s_taped s_size s_spot 0 s_spot s_number s_fault s_wrongAt s_letters s_acts s_images s_ways s_victims s_backs s_ordered s_hitNow s_hitsNow s_plainHit s_plainBack s_fitsNow s_someNow s_everyNow s_askLeft s_drawn s_tape (v_cache) (v_read) (v_v0) (v_x) (v_past) (v_kept) (v_order) (v_plainLine) (v_plainDirty) (v_otherIn) s_spot x2  hx) zy_X7_byteAt zw_1099 (by unfold zRm; decide) rfl rfl (fun _ => rfl) (N := 2) (by decide) (fun _ => ⟨rfl, rfl, rfl⟩) rfl rfl rfl (Nat.le_of_ble_eq_true rfl) dX7_goesOn_53 rfl rfl (fun _ => rfl) (fun x2 hf => ?_)
        refine j_istore_n (q := 57) (lv' := [(1, .int x2), (0, .ref q_this)]) hC dX7_goesOn_56 rfl rfl (by decide) rfl ?_
        refine j_iconst (q := 58) (v := 0) hC dX7_goesOn_57 rfl (by decide) ?_
        refine j_istore_n (q := 59) (lv' := [(2, .int 0), (1, .int x2), (0, .ref q_this)]) hC dX7_goesOn_58 rfl rfl (by decide) rfl ?_
        refine j_iload_n (q := 60) hC dX7_goesOn_59 rfl rfl 1 rfl ?_
        refine j_iconst (q := 61) (v := (-1)) hC dX7_goesOn_60 rfl (by decide) ?_
        refine j_icmp_ne (tgt := 72) (q := 64) hC dX7_goesOn_61 (by decide) rfl hf (fun _ hf => ?_) (fun _ hf => ?_)
        · refine j_iload_n (q := 73) hC dX7_goesOn_72 rfl rfl 1 rfl ?_
          refine j_callS (q := 76) hC [.int x2] [] (fun x3 : Int32 => some (.int x3)) (fun x3 => []) (fun x3 => [(q_this, .inr (6, [.int s_thrown, .int s_trouble, .int s_where, v_cache, v_read, .ref q_tape, .int s_taped, .int s_size, .int s_spot, .int 0, .int s_spot, .int s_number, .int s_fault, .int s_wrongAt, .long s_letters, v_v0, v_x, v_past, v_kept, .int s_acts, .int s_images, .int s_ways, .int s_victims, .int s_backs, v_order, .int s_ordered, .int s_hitNow, .int s_hitsNow, v_plainLine, v_plainDirty, .int s_plainHit, .int s_plainBack, .int s_fitsNow, .int s_someNow, .int s_everyNow, v_otherIn, .int s_askLeft, .int s_drawn])), (q_tape, .inl (E.2.1 1, 1200, .inl s_tape))]) (fun x3 => [.int x3]) [] [0, 1] hf (fun x3 hx => wX7_isLetter E x2 x3  hx) zy_X7_isLetter zw_1103 (by unfold zRm; decide) rfl rfl (fun _ => rfl) (N := 2) (by decide) (fun _ => ⟨rfl, rfl, rfl⟩) rfl (Nat.le_of_ble_eq_true rfl) dX7_goesOn_73 rfl rfl (fun _ => rfl) (fun x3 hf => ?_)
          refine j_if_eq (tgt := 161) (q := 79) hC dX7_goesOn_76 (by decide) rfl hf (fun _ hf => ?_) (fun _ hf => ?_)
          · refine j_iload_n (q := 162) hC dX7_goesOn_161 rfl rfl 1 rfl ?_
            refine j_callS (q := 165) hC [.int x2] [] (fun x4 : Int32 => some (.int x4)) (fun x4 => []) (fun x4 => [(q_this, .inr (6, [.int s_thrown, .int s_trouble, .int s_where, v_cache, v_read, .ref q_tape, .int s_taped, .int s_size, .int s_spot, .int 0, .int s_spot, .int s_number, .int s_fault, .int s_wrongAt, .long s_letters, v_v0, v_x, v_past, v_kept, .int s_acts, .int s_images, .int s_ways, .int s_victims, .int s_backs, v_order, .int s_ordered, .int s_hitNow, .int s_hitsNow, v_plainLine, v_plainDirty, .int s_plainHit, .int s_plainBack, .int s_fitsNow, .int s_someNow, .int s_everyNow, v_otherIn, .int s_askLeft, .int s_drawn])), (q_tape, .inl (E.2.1 1, 1200, .inl s_tape))]) (fun x4 => [.int x4]) [] [0, 1] hf (fun x4 hx => wX7_isDigit E x2 x4  hx) zy_X7_isDigit zw_1107 (by unfold zRm; decide) rfl rfl (fun _ => rfl) (N := 2) (by decide) (fun _ => ⟨rfl, rfl, rfl⟩) rfl (Nat.le_of_ble_eq_true rfl) dX7_goesOn_162 rfl rfl (fun _ => rfl) (fun x4 hf => ?_)
            refine j_if_eq (tgt := 244) (q := 168) hC dX7_goesOn_165 (by decide) rfl hf (fun _ hf => ?_) (fun _ hf => ?_)
            · refine j_iload_n (q := 245) hC dX7_goesOn_244 rfl rfl 1 rfl ?_
              refine j_bipush (q := 247) (v := 59) hC dX7_goesOn_245 rfl (by decide) ?_
              refine j_icmp_ne (tgt := 265) (q := 250) hC dX7_goesOn_247 (by decide) rfl hf (fun _ hf => ?_) (fun _ hf => ?_)
              · have hx := Option.some.inj hf
                exact j_vret hC hR dX7_goesOn_265 rfl (by rw [← hx])
              · refine j_aload_n (q := 251) hC dX7_goesOn_250 rfl rfl 2 rfl ?_
                refine j_iconst (q := 252) (v := 4) hC dX7_goesOn_251 rfl (by decide) ?_
                refine j_put (q := 255) (host := "") hC zcl_X7 0 9 (ws' := [(q_this, .inr (6, [.int s_thrown, .int s_trouble, .int s_where, v_cache, v_read, .ref q_tape, .int s_taped, .int s_size, .int s_spot, .int 4, .int s_spot, .int s_number, .int s_fault, .int s_wrongAt, .long s_letters, v_v0, v_x, v_past, v_kept, .int s_acts, .int s_images, .int s_ways, .int s_victims, .int s_backs, v_order, .int s_ordered, .int s_hitNow, .int s_hitsNow, v_plainLine, v_plainDirty, .int s_plainHit, .int s_plainBack, .int s_fitsNow, .int s_someNow, .int s_everyNow, v_otherIn, .int s_askLeft, .int s_drawn])), (q_tape, .inl (E.2.1 1, 1200, .inl s_tape))]) zw_910 ⟨rfl, rfl, by decide, rfl⟩ rfl rfl rfl (Nat.le_of_ble_eq_true rfl) rfl dX7_goesOn_252 rfl ?_
                refine j_aload_n (q := 256) hC dX7_goesOn_255 rfl rfl 2 rfl ?_
                refine j_dup (q := 257) hC dX7_goesOn_256 rfl rfl ?_
                refine j_get (q := 260) hC zcl_X7 0 8 zw_909 ⟨rfl, rfl, by decide⟩ rfl rfl dX7_goesOn_257 rfl ?_
                refine j_iconst (q := 261) (v := 1) hC dX7_goesOn_260 rfl (by decide) ?_
                refine j_iadd (q := 262) hC dX7_goesOn_261 rfl hf (fun x5 hf => ?_)
                refine j_put (q := 265) (host := "") hC zcl_X7 0 8 (ws' := [(q_this, .inr (6, [.int s_thrown, .int s_trouble, .int s_where, v_cache, v_read, .ref q_tape, .int s_taped, .int s_size, .int x5, .int 4, .int s_spot, .int s_number, .int s_fault, .int s_wrongAt, .long s_letters, v_v0, v_x, v_past, v_kept, .int s_acts, .int s_images, .int s_ways, .int s_victims, .int s_backs, v_order, .int s_ordered, .int s_hitNow, .int s_hitsNow, v_plainLine, v_plainDirty, .int s_plainHit, .int s_plainBack, .int s_fitsNow, .int s_someNow, .int s_everyNow, v_otherIn, .int s_askLeft, .int s_drawn])), (q_tape, .inl (E.2.1 1, 1200, .inl s_tape))]) zw_909 ⟨rfl, rfl, by decide, rfl⟩ rfl rfl rfl (Nat.le_of_ble_eq_true rfl) rfl dX7_goesOn_262 rfl ?_
                have hx := Option.some.inj hf
                exact j_vret hC hR dX7_goesOn_265 rfl (by rw [← hx])
            · refine j_aload_n (q := 169) hC dX7_goesOn_168 rfl rfl 2 rfl ?_
              refine j_iconst (q := 170) (v := 0) hC dX7_goesOn_169 rfl (by decide) ?_
              refine j_put (q := 173) (host := "") hC zcl_X7 0 11 (ws' := [(q_this, .inr (6, [.int s_thrown, .int s_trouble, .int s_where, v_cache, v_read, .ref q_tape, .int s_taped, .int s_size, .int s_spot, .int 0, .int s_spot, .int 0, .int s_fault, .int s_wrongAt, .long s_letters, v_v0, v_x, v_past, v_kept, .int s_acts, .int s_images, .int s_ways, .int s_victims, .int s_backs, v_order, .int s_ordered, .int s_hitNow, .int s_hitsNow, v_plainLine, v_plainDirty, .int s_plainHit, .int s_plainBack, .int s_fitsNow, .int s_someNow, .int s_everyNow, v_otherIn, .int s_askLeft, .int s_drawn])), (q_tape, .inl (E.2.1 1, 1200, .inl s_tape))]) zw_912 ⟨rfl, rfl, by decide, rfl⟩ rfl rfl rfl (Nat.le_of_ble_eq_true rfl) rfl dX7_goesOn_170 rfl ?_
              refine j_sub (lv' := [(0, .ref q_this), (2, .int 0)]) [2, 0] rfl ?_
              exact B173  zF 0 s_spot 0 s_spot 0 s_letters hf
          · refine j_aload_n (q := 80) hC dX7_goesOn_79 rfl rfl 2 rfl ?_
            refine j_lconst (q := 81) (v := 0) hC dX7_goesOn_80 rfl (by decide) ?_
            refine j_put (q := 84) (host := "") hC zcl_X7 0 14 (ws' := [(q_this, .inr (6, [.int s_thrown, .int s_trouble, .int s_where, v_cache, v_read, .ref q_tape, .int s_taped, .int s_size, .int s_spot, .int 0, .int s_spot, .int s_number, .int s_fault, .int s_wrongAt, .long 0, v_v0, v_x, v_past, v_kept, .int s_acts, .int s_images, .int s_ways, .int s_victims, .int s_backs, v_order, .int s_ordered, .int s_hitNow, .int s_hitsNow, v_plainLine, v_plainDirty, .int s_plainHit, .int s_plainBack, .int s_fitsNow, .int s_someNow, .int s_everyNow, v_otherIn, .int s_askLeft, .int s_drawn])), (q_tape, .inl (E.2.1 1, 1200, .inl s_tape))]) zw_915 ⟨rfl, rfl, by decide, rfl⟩ rfl rfl rfl (Nat.le_of_ble_eq_true rfl) rfl dX7_goesOn_81 rfl ?_
            refine j_sub (lv' := [(0, .ref q_this), (2, .int 0)]) [2, 0] rfl ?_
            exact B84  zF 0 s_spot 0 s_spot s_number 0 hf
        · refine j_aload_n (q := 65) hC dX7_goesOn_64 rfl rfl 2 rfl ?_
          refine j_iconst (q := 66) (v := 1) hC dX7_goesOn_65 rfl (by decide) ?_
          refine j_put (q := 69) (host := "") hC zcl_X7 0 9 (ws' := [(q_this, .inr (6, [.int s_thrown, .int s_trouble, .int s_where, v_cache, v_read, .ref q_tape, .int s_taped, .int s_size, .int s_spot, .int 1, .int s_spot, .int s_number, .int s_fault, .int s_wrongAt, .long s_letters, v_v0, v_x, v_past, v_kept, .int s_acts, .int s_images, .int s_ways, .int s_victims, .int s_backs, v_order, .int s_ordered, .int s_hitNow, .int s_hitsNow, v_plainLine, v_plainDirty, .int s_plainHit, .int s_plainBack, .int s_fitsNow, .int s_someNow, .int s_everyNow, v_otherIn, .int s_askLeft, .int s_drawn])), (q_tape, .inl (E.2.1 1, 1200, .inl s_tape))]) zw_910 ⟨rfl, rfl, by decide, rfl⟩ rfl rfl rfl (Nat.le_of_ble_eq_true rfl) rfl dX7_goesOn_66 rfl ?_
          refine j_goto (tgt := 265) hC dX7_goesOn_69 (by decide) ?_
          have hx := Option.some.inj hf
          exact j_vret hC hR dX7_goesOn_265 rfl (by rw [← hx])
      · refine j_aload_n (q := 23) hC dX7_goesOn_22 rfl rfl 0 rfl ?_
        refine j_dup (q := 24) hC dX7_goesOn_23 rfl rfl ?_
        refine j_get (q := 27) hC zcl_X7 0 8 zw_909 ⟨rfl, rfl, by decide⟩ rfl rfl dX7_goesOn_24 rfl ?_
        refine j_iconst (q := 28) (v := 1) hC dX7_goesOn_27 rfl (by decide) ?_
        refine j_iadd (q := 29) hC dX7_goesOn_28 rfl hf (fun x6 hf => ?_)
        refine j_put (q := 32) (host := "") hC zcl_X7 0 8 (ws' := [(q_this, .inr (6, [.int s_thrown, .int s_trouble, .int s_where, v_cache, v_read, .ref q_tape, .int s_taped, .int s_size, .int x6, .int s_sort, .int s_place, .int s_number, .int s_fault, .int s_wrongAt, .long s_letters, v_v0, v_x, v_past, v_kept, .int s_acts, .int s_images, .int s_ways, .int s_victims, .int s_backs, v_order, .int s_ordered, .int s_hitNow, .int s_hitsNow, v_plainLine, v_plainDirty, .int s_plainHit, .int s_plainBack, .int s_fitsNow, .int s_someNow, .int s_everyNow, v_otherIn, .int s_askLeft, .int s_drawn])), (q_tape, .inl (E.2.1 1, 1200, .inl s_tape))]) zw_909 ⟨rfl, rfl, by decide, rfl⟩ rfl rfl rfl (Nat.le_of_ble_eq_true rfl) rfl dX7_goesOn_29 rfl ?_
        refine j_goto (tgt := 9) hC dX7_goesOn_32 (by decide) ?_
        exact ih x6 s_sort s_place s_number s_letters hf
  unfold fX7_goesOn at hf
  refine j_sub (lv' := [(0, .ref q_this)]) [0] rfl ?_
  refine j_aload_n (q := 1) hC dX7_goesOn_0 rfl rfl 0 rfl ?_
  refine j_get (q := 4) hC zcl_X7 0 9 zw_910 ⟨rfl, rfl, by decide⟩ rfl rfl dX7_goesOn_1 rfl ?_
  refine j_iconst (q := 5) (v := 5) hC dX7_goesOn_4 rfl (by decide) ?_
  refine j_icmp_ne (tgt := 9) (q := 8) hC dX7_goesOn_5 (by decide) rfl hf (fun _ hf => ?_) (fun _ hf => ?_)
  · exact B9  zF s_spot s_sort s_place s_number s_letters hf
  · have hx := Option.some.inj hf
    exact j_vret hC hR dX7_goesOn_8 rfl (by rw [← hx])
noncomputable def fX7_flaw (s_sort : Int32) (s_place : Int32) (s_fault : Int32) (s_wrongAt : Int32) (a1 : Int32) : Option (Int32 × Int32 × Int32) :=
  if s_sort = 5 then (some (s_sort, s_fault, s_wrongAt))
    else (some (5, a1, s_place))
set_option maxHeartbeats 4000000 in
set_option maxRecDepth 100000 in
theorem wX7_flaw (E : zE) (q_this : Nat) (s_thrown : Int32) (s_trouble : Int32) (s_where : Int32) (s_taped : Int32) (s_size : Int32) (s_spot : Int32) (s_sort : Int32) (s_place : Int32) (s_number : Int32) (s_fault : Int32) (s_wrongAt : Int32) (s_letters : Int64) (s_acts : Int32) (s_images : Int32) (s_ways : Int32) (s_victims : Int32) (s_backs : Int32) (s_ordered : Int32) (s_hitNow : Int32) (s_hitsNow : Int32) (s_plainHit : Int32) (s_plainBack : Int32) (s_fitsNow : Int32) (s_someNow : Int32) (s_everyNow : Int32) (s_askLeft : Int32) (s_drawn : Int32) (v_cache : Value) (v_read : Value) (v_tape : Value) (v_v0 : Value) (v_x : Value) (v_past : Value) (v_kept : Value) (v_order : Value) (v_plainLine : Value) (v_plainDirty : Value) (v_otherIn : Value) (a1 : Int32) (x : Int32 × Int32 × Int32) (hf : fX7_flaw s_sort s_place s_fault s_wrongAt a1 = some x) (l : Launch) (sz : Nat) : zM l yX7_flaw cX7_flaw 2 none { frames := 0, cells := 0, slots := 0, locals := 0 } E [.ref q_this, .int a1] [(q_this, .inr (6, [.int s_thrown, .int s_trouble, .int s_where, v_cache, v_read, v_tape, .int s_taped, .int s_size, .int s_spot, .int s_sort, .int s_place, .int s_number, .int s_fault, .int s_wrongAt, .long s_letters, v_v0, v_x, v_past, v_kept, .int s_acts, .int s_images, .int s_ways, .int s_victims, .int s_backs, v_order, .int s_ordered, .int s_hitNow, .int s_hitsNow, v_plainLine, v_plainDirty, .int s_plainHit, .int s_plainBack, .int s_fitsNow, .int s_someNow, .int s_everyNow, v_otherIn, .int s_askLeft, .int s_drawn]))] sz none [(q_this, .inr (6, [.int s_thrown, .int s_trouble, .int s_where, v_cache, v_read, v_tape, .int s_taped, .int s_size, .int s_spot, .int x.1, .int s_place, .int s_number, .int x.2.1, .int x.2.2, .long s_letters, v_v0, v_x, v_past, v_kept, .int s_acts, .int s_images, .int s_ways, .int s_victims, .int s_backs, v_order, .int s_ordered, .int s_hitNow, .int s_hitsNow, v_plainLine, v_plainDirty, .int s_plainHit, .int s_plainBack, .int s_fitsNow, .int s_someNow, .int s_everyNow, v_otherIn, .int s_askLeft, .int s_drawn]))] := by
  refine zEnter (by decide) (Nat.le_of_ble_eq_true rfl) ?_
  intro C hC hR
  change zC C E cX7_flaw "PackedCacheModel" 2 _ at hC
  unfold fX7_flaw at hf
  refine j_sub (lv' := [(0, .ref q_this), (1, .int a1)]) [0, 1] rfl ?_
  refine j_aload_n (q := 1) hC dX7_flaw_0 rfl rfl 0 rfl ?_
  refine j_get (q := 4) hC zcl_X7 0 9 zw_910 ⟨rfl, rfl, by decide⟩ rfl rfl dX7_flaw_1 rfl ?_
  refine j_iconst (q := 5) (v := 5) hC dX7_flaw_4 rfl (by decide) ?_
  refine j_icmp_ne (tgt := 9) (q := 8) hC dX7_flaw_5 (by decide) rfl hf (fun _ hf => ?_) (fun _ hf => ?_)
  · refine j_aload_n (q := 10) hC dX7_flaw_9 rfl rfl 0 rfl ?_
    refine j_iload_n (q := 11) hC dX7_flaw_10 rfl rfl 1 rfl ?_
    refine j_put (q := 14) (host := "") hC zcl_X7 0 12 (ws' := [(q_this, .inr (6, [.int s_thrown, .int s_trouble, .int s_where, v_cache, v_read, v_tape, .int s_taped, .int s_size, .int s_spot, .int s_sort, .int s_place, .int s_number, .int a1, .int s_wrongAt, .long s_letters, v_v0, v_x, v_past, v_kept, .int s_acts, .int s_images, .int s_ways, .int s_victims, .int s_backs, v_order, .int s_ordered, .int s_hitNow, .int s_hitsNow, v_plainLine, v_plainDirty, .int s_plainHit, .int s_plainBack, .int s_fitsNow, .int s_someNow, .int s_everyNow, v_otherIn, .int s_askLeft, .int s_drawn]))]) zw_913 ⟨rfl, rfl, by decide, rfl⟩ rfl rfl rfl (Nat.le_of_ble_eq_true rfl) rfl dX7_flaw_11 rfl ?_
    refine j_aload_n (q := 15) hC dX7_flaw_14 rfl rfl 0 rfl ?_
    refine j_aload_n (q := 16) hC dX7_flaw_15 rfl rfl 0 rfl ?_
    refine j_get (q := 19) hC zcl_X7 0 10 zw_911 ⟨rfl, rfl, by decide⟩ rfl rfl dX7_flaw_16 rfl ?_
    refine j_put (q := 22) (host := "") hC zcl_X7 0 13 (ws' := [(q_this, .inr (6, [.int s_thrown, .int s_trouble, .int s_where, v_cache, v_read, v_tape, .int s_taped, .int s_size, .int s_spot, .int s_sort, .int s_place, .int s_number, .int a1, .int s_place, .long s_letters, v_v0, v_x, v_past, v_kept, .int s_acts, .int s_images, .int s_ways, .int s_victims, .int s_backs, v_order, .int s_ordered, .int s_hitNow, .int s_hitsNow, v_plainLine, v_plainDirty, .int s_plainHit, .int s_plainBack, .int s_fitsNow, .int s_someNow, .int s_everyNow, v_otherIn, .int s_askLeft, .int s_drawn]))]) zw_914 ⟨rfl, rfl, by decide, rfl⟩ rfl rfl rfl (Nat.le_of_ble_eq_true rfl) rfl dX7_flaw_19 rfl ?_
    refine j_aload_n (q := 23) hC dX7_flaw_22 rfl rfl 0 rfl ?_
    refine j_iconst (q := 24) (v := 5) hC dX7_flaw_23 rfl (by decide) ?_
    refine j_put (q := 27) (host := "") hC zcl_X7 0 9 (ws' := [(q_this, .inr (6, [.int s_thrown, .int s_trouble, .int s_where, v_cache, v_read, v_tape, .int s_taped, .int s_size, .int s_spot, .int 5, .int s_place, .int s_number, .int a1, .int s_place, .long s_letters, v_v0, v_x, v_past, v_kept, .int s_acts, .int s_images, .int s_ways, .int s_victims, .int s_backs, v_order, .int s_ordered, .int s_hitNow, .int s_hitsNow, v_plainLine, v_plainDirty, .int s_plainHit, .int s_plainBack, .int s_fitsNow, .int s_someNow, .int s_everyNow, v_otherIn, .int s_askLeft, .int s_drawn]))]) zw_910 ⟨rfl, rfl, by decide, rfl⟩ rfl rfl rfl (Nat.le_of_ble_eq_true rfl) rfl dX7_flaw_24 rfl ?_
    have hx := Option.some.inj hf
    exact j_vret hC hR dX7_flaw_27 rfl (by rw [← hx])
  · have hx := Option.some.inj hf
    exact j_vret hC hR dX7_flaw_8 rfl (by rw [← hx])
noncomputable def fX7_packed_4 (j0 : Nat)  : Nat → Int64 → Int32 → Option (Int64)
  | 0, _, _ => none
  | m + 1, b1, b3 =>
    (fJ_len j0 ).bind fun x1 =>
    if x1 ≤ b3 then (some b1)
    else (zlet (32 * b1 : Int64) fun x2 =>
    (fJ_charAt j0 b3).bind fun x3 =>
    zlet (x3 - 97 : Int32) fun x4 =>
    zlet (x4 + 1 : Int32) fun x5 =>
    zlet (Int32.toInt64 x5 : Int64) fun x6 =>
    zlet (x2 + x6 : Int64) fun x7 =>
    zlet (b3 + 1) fun x8 =>
    fX7_packed_4 j0  m x7 x8)
noncomputable def fX7_packed (j0 : Nat) : Option (Int64) :=
  fX7_packed_4 j0  zF 0 0
set_option maxHeartbeats 4000000 in
set_option maxRecDepth 100000 in
theorem wX7_packed (E : zE) (j0 : Nat) (x : Int64) (hj0 : j0 < 25) (hf : fX7_packed j0 = some x) (l : Launch) (sz : Nat) : zM l yX7_packed cX7_packed 4 (some .long) { frames := 4, cells := 0, slots := 0, locals := 85 } E [.ref (E.2.2.2.1 j0)] [] sz (some (.long x)) [] := by
  refine zEnter (by decide) (Nat.le_of_ble_eq_true rfl) ?_
  intro C hC hR
  change zC C E cX7_packed "PackedCacheModel" 4 _ at hC
  have B4 : ∀ (N : Nat), ∀ (b1 : Int64) (b3 : Int32), fX7_packed_4 j0  N b1 b3 = some x → J C 0 0 [] [(0, .ref (E.2.2.2.1 j0)), (1, .long b1), (3, .int b3)] 4 [] := by
    intro  N
    induction N with
    | zero =>
      intro b1 b3 hf
      rw [fX7_packed_4] at hf
      cases hf
    | succ m ih =>
      intro b1 b3 hf
      rw [fX7_packed_4] at hf
      refine j_iload_n (q := 5) hC dX7_packed_4 rfl rfl 2 rfl ?_
      refine j_aload_n (q := 6) hC dX7_packed_5 rfl rfl 0 rfl ?_
      refine j_callT (q := 9) (j := j0) hC hj0 [] [.int b3] (fun x1 : Int32 => some (.int x1)) (fun x1 => [.int x1, .int b3]) hf (fun x1 hx => wJ_len E hj0  x1 hx) zy_J0_length_8abf5 rfl zw_1126 (by unfold zRm; decide) rfl (Nat.le_of_ble_eq_true rfl) dX7_packed_6 rfl rfl (fun _ => rfl) (fun x1 hf => ?_)
      refine j_icmp_ge (tgt := 36) (q := 12) hC dX7_packed_9 (by decide) rfl hf (fun _ hf => ?_) (fun _ hf => ?_)
      · refine j_lload_n (q := 37) hC dX7_packed_36 rfl rfl 1 rfl ?_
        have hx := Option.some.inj hf
        exact j_lret hC hR dX7_packed_37 (by rw [← hx]) rfl
      · refine j_ldc2 (q := 15) hC (v := 32) dX7_packed_12 rfl zw_1106 ?_
        refine j_lload_n (q := 16) hC dX7_packed_15 rfl rfl 1 rfl ?_
        refine j_lmul (q := 17) hC dX7_packed_16 rfl hf (fun x2 hf => ?_)
        refine j_aload_n (q := 18) hC dX7_packed_17 rfl rfl 0 rfl ?_
        refine j_iload_n (q := 19) hC dX7_packed_18 rfl rfl 2 rfl ?_
        refine j_callT (q := 22) (j := j0) hC hj0 [.int b3] [.long x2] (fun x3 : Int32 => some (.int x3)) (fun x3 => [.int x3, .long x2]) hf (fun x3 hx => wJ_charAt E hj0 b3 x3 hx) zy_J0_charAt_5068e rfl zw_1127 (by unfold zRm; decide) rfl (Nat.le_of_ble_eq_true rfl) dX7_packed_19 rfl rfl (fun _ => rfl) (fun x3 hf => ?_)
        refine j_bipush (q := 24) (v := 97) hC dX7_packed_22 rfl (by decide) ?_
        refine j_isub (q := 25) hC dX7_packed_24 rfl hf (fun x4 hf => ?_)
        refine j_iconst (q := 26) (v := 1) hC dX7_packed_25 rfl (by decide) ?_
        refine j_iadd (q := 27) hC dX7_packed_26 rfl hf (fun x5 hf => ?_)
        refine j_i2l (q := 28) hC dX7_packed_27 rfl hf (fun x6 hf => ?_)
        refine j_ladd (q := 29) hC dX7_packed_28 rfl hf (fun x7 hf => ?_)
        refine j_lstore_n (q := 30) (lv' := [(1, .long x7), (0, .ref (E.2.2.2.1 j0)), (3, .int b3)]) hC dX7_packed_29 rfl rfl (by decide) rfl ?_
        refine j_iinc (q := 33) (v := 1) hC (fun x8 => [(3, .int x8), (1, .long x7), (0, .ref (E.2.2.2.1 j0))]) dX7_packed_30 rfl 2 rfl (by decide) (by decide) (fun _ => rfl) hf (fun x8 hf => ?_)
        refine j_goto (tgt := 4) hC dX7_packed_33 (by decide) ?_
        refine j_sub (lv' := [(0, .ref (E.2.2.2.1 j0)), (1, .long x7), (3, .int x8)]) [2, 1, 0] rfl ?_
        exact ih x7 x8 hf
  unfold fX7_packed at hf
  refine j_sub (lv' := [(0, .ref (E.2.2.2.1 j0))]) [0] rfl ?_
  refine j_lconst (q := 1) (v := 0) hC dX7_packed_0 rfl (by decide) ?_
  refine j_lstore_n (q := 2) (lv' := [(1, .long 0), (0, .ref (E.2.2.2.1 j0))]) hC dX7_packed_1 rfl rfl (by decide) rfl ?_
  refine j_iconst (q := 3) (v := 0) hC dX7_packed_2 rfl (by decide) ?_
  refine j_istore_n (q := 4) (lv' := [(3, .int 0), (1, .long 0), (0, .ref (E.2.2.2.1 j0))]) hC dX7_packed_3 rfl rfl (by decide) rfl ?_
  refine j_sub (lv' := [(0, .ref (E.2.2.2.1 j0)), (1, .long 0), (3, .int 0)]) [2, 1, 0] rfl ?_
  exact B4  zF 0 0 hf
noncomputable def fX7_isWord (j1 : Nat) (s_sort : Int32) (s_letters : Int64) : Option (Int32) :=
  if s_sort = 2 then ((fX7_packed j1).bind fun x1 =>
    zlet (lg_cmp s_letters x1 : Int32) fun x2 =>
    if x2 = 0 then (some 1)
    else (some 0))
    else (some 0)
set_option maxHeartbeats 4000000 in
set_option maxRecDepth 100000 in
theorem wX7_isWord (E : zE) (q_this : Nat) (s_thrown : Int32) (s_trouble : Int32) (s_where : Int32) (s_taped : Int32) (s_size : Int32) (s_spot : Int32) (s_sort : Int32) (s_place : Int32) (s_number : Int32) (s_fault : Int32) (s_wrongAt : Int32) (s_letters : Int64) (s_acts : Int32) (s_images : Int32) (s_ways : Int32) (s_victims : Int32) (s_backs : Int32) (s_ordered : Int32) (s_hitNow : Int32) (s_hitsNow : Int32) (s_plainHit : Int32) (s_plainBack : Int32) (s_fitsNow : Int32) (s_someNow : Int32) (s_everyNow : Int32) (s_askLeft : Int32) (s_drawn : Int32) (v_cache : Value) (v_read : Value) (v_tape : Value) (v_v0 : Value) (v_x : Value) (v_past : Value) (v_kept : Value) (v_order : Value) (v_plainLine : Value) (v_plainDirty : Value) (v_otherIn : Value) (j1 : Nat) (x : Int32) (hj1 : j1 < 25) (hf : fX7_isWord j1 s_sort s_letters = some x) (l : Launch) (sz : Nat) : zM l yX7_isWord cX7_isWord 2 (some .boolean) { frames := 5, cells := 0, slots := 0, locals := 108 } E [.ref q_this, .ref (E.2.2.2.1 j1)] [(q_this, .inr (6, [.int s_thrown, .int s_trouble, .int s_where, v_cache, v_read, v_tape, .int s_taped, .int s_size, .int s_spot, .int s_sort, .int s_place, .int s_number, .int s_fault, .int s_wrongAt, .long s_letters, v_v0, v_x, v_past, v_kept, .int s_acts, .int s_images, .int s_ways, .int s_victims, .int s_backs, v_order, .int s_ordered, .int s_hitNow, .int s_hitsNow, v_plainLine, v_plainDirty, .int s_plainHit, .int s_plainBack, .int s_fitsNow, .int s_someNow, .int s_everyNow, v_otherIn, .int s_askLeft, .int s_drawn]))] sz (some (.int x)) [(q_this, .inr (6, [.int s_thrown, .int s_trouble, .int s_where, v_cache, v_read, v_tape, .int s_taped, .int s_size, .int s_spot, .int s_sort, .int s_place, .int s_number, .int s_fault, .int s_wrongAt, .long s_letters, v_v0, v_x, v_past, v_kept, .int s_acts, .int s_images, .int s_ways, .int s_victims, .int s_backs, v_order, .int s_ordered, .int s_hitNow, .int s_hitsNow, v_plainLine, v_plainDirty, .int s_plainHit, .int s_plainBack, .int s_fitsNow, .int s_someNow, .int s_everyNow, v_otherIn, .int s_askLeft, .int s_drawn]))] := by
  refine zEnter (by decide) (Nat.le_of_ble_eq_true rfl) ?_
  intro C hC hR
  change zC C E cX7_isWord "PackedCacheModel" 2 _ at hC
  unfold fX7_isWord at hf
  refine j_sub (lv' := [(0, .ref q_this), (1, .ref (E.2.2.2.1 j1))]) [0, 1] rfl ?_
  refine j_aload_n (q := 1) hC dX7_isWord_0 rfl rfl 0 rfl ?_
  refine j_get (q := 4) hC zcl_X7 0 9 zw_910 ⟨rfl, rfl, by decide⟩ rfl rfl dX7_isWord_1 rfl ?_
  refine j_iconst (q := 5) (v := 2) hC dX7_isWord_4 rfl (by decide) ?_
  refine j_icmp_ne (tgt := 24) (q := 8) hC dX7_isWord_5 (by decide) rfl hf (fun _ hf => ?_) (fun _ hf => ?_)
  · refine j_iconst (q := 25) (v := 0) hC dX7_isWord_24 rfl (by decide) ?_
    have hx := Option.some.inj hf
    exact j_zret hC hR rfl dX7_isWord_25 (by rw [← hx]) rfl
  · refine j_aload_n (q := 9) hC dX7_isWord_8 rfl rfl 0 rfl ?_
    refine j_get (q := 12) hC zcl_X7 0 14 zw_915 ⟨rfl, rfl, by decide⟩ rfl rfl dX7_isWord_9 rfl ?_
    refine j_aload_n (q := 13) hC dX7_isWord_12 rfl rfl 1 rfl ?_
    refine j_callS (q := 16) hC [.ref (E.2.2.2.1 j1)] [.long s_letters] (fun x1 : Int64 => some (.long x1)) (fun x1 => []) (fun x1 => [(q_this, .inr (6, [.int s_thrown, .int s_trouble, .int s_where, v_cache, v_read, v_tape, .int s_taped, .int s_size, .int s_spot, .int s_sort, .int s_place, .int s_number, .int s_fault, .int s_wrongAt, .long s_letters, v_v0, v_x, v_past, v_kept, .int s_acts, .int s_images, .int s_ways, .int s_victims, .int s_backs, v_order, .int s_ordered, .int s_hitNow, .int s_hitsNow, v_plainLine, v_plainDirty, .int s_plainHit, .int s_plainBack, .int s_fitsNow, .int s_someNow, .int s_everyNow, v_otherIn, .int s_askLeft, .int s_drawn]))]) (fun x1 => [.long x1, .long s_letters]) [] [0] hf (fun x1 hx => wX7_packed E j1 x1 hj1 hx) zy_X7_packed zw_1123 (by unfold zRm; decide) rfl rfl (fun _ => rfl) (N := 1) (by decide) (fun _ => ⟨rfl, rfl, rfl⟩) rfl (Nat.le_of_ble_eq_true rfl) dX7_isWord_13 rfl rfl (fun _ => rfl) (fun x1 hf => ?_)
    refine j_lcmp (q := 17) hC dX7_isWord_16 rfl hf (fun x2 hf => ?_)
    refine j_if_ne (tgt := 24) (q := 20) hC dX7_isWord_17 (by decide) rfl hf (fun _ hf => ?_) (fun _ hf => ?_)
    · refine j_iconst (q := 25) (v := 0) hC dX7_isWord_24 rfl (by decide) ?_
      have hx := Option.some.inj hf
      exact j_zret hC hR rfl dX7_isWord_25 (by rw [← hx]) rfl
    · refine j_iconst (q := 21) (v := 1) hC dX7_isWord_20 rfl (by decide) ?_
      refine j_goto (tgt := 25) hC dX7_isWord_21 (by decide) ?_
      have hx := Option.some.inj hf
      exact j_zret hC hR rfl dX7_isWord_25 (by rw [← hx]) rfl
noncomputable def fX7_lineBegins_26 (s_size : Int32) (s_read_sets : Int32) (s_tape : (Nat → Int32))  (s_spot : Int32) (s_sort : Int32) (s_place : Int32) (s_number : Int32) (s_fault : Int32) (s_wrongAt : Int32) (s_letters : Int64) : Option (Int32 × Int32 × Int32 × Int32 × Int32 × Int32 × Int64) :=
  (fX7_goesOn s_size s_spot s_sort s_place s_number s_letters s_tape).bind fun x1 =>
    some (x1.1, x1.2.1, x1.2.2.1, x1.2.2.2.1, s_fault, s_wrongAt, x1.2.2.2.2)
noncomputable def fX7_lineBegins_10 (s_size : Int32) (s_read_sets : Int32) (s_tape : (Nat → Int32))  (s_spot : Int32) (s_sort : Int32) (s_place : Int32) (s_number : Int32) (s_fault : Int32) (s_wrongAt : Int32) (s_letters : Int64) : Option (Int32 × Int32 × Int32 × Int32 × Int32 × Int32 × Int64) :=
  if s_read_sets = 0 then ((fX7_flaw s_sort s_place s_fault s_wrongAt 6).bind fun x1 =>
    fX7_lineBegins_26 s_size s_read_sets s_tape  s_spot x1.1 s_place s_number x1.2.1 x1.2.2 s_letters)
    else (fX7_lineBegins_26 s_size s_read_sets s_tape  s_spot s_sort s_place s_number s_fault s_wrongAt s_letters)
noncomputable def fX7_lineBegins (s_size : Int32) (s_spot : Int32) (s_sort : Int32) (s_place : Int32) (s_number : Int32) (s_fault : Int32) (s_wrongAt : Int32) (s_letters : Int64) (s_read_sets : Int32) (s_tape : (Nat → Int32)) (a1 : Int32) (a2 : Int32) : Option (Int32 × Int32 × Int32 × Int32 × Int32 × Int32 × Int64) :=
  if a1 = a2 then ((fX7_flaw s_sort s_place s_fault s_wrongAt 5).bind fun x1 =>
    fX7_lineBegins_10 s_size s_read_sets s_tape  s_spot x1.1 s_place s_number x1.2.1 x1.2.2 s_letters)
    else (fX7_lineBegins_10 s_size s_read_sets s_tape  s_spot s_sort s_place s_number s_fault s_wrongAt s_letters)
set_option maxHeartbeats 4000000 in
set_option maxRecDepth 100000 in
theorem wX7_lineBegins (E : zE) (q_this : Nat) (q_read : Nat) (q_tape : Nat) (s_thrown : Int32) (s_trouble : Int32) (s_where : Int32) (s_taped : Int32) (s_size : Int32) (s_spot : Int32) (s_sort : Int32) (s_place : Int32) (s_number : Int32) (s_fault : Int32) (s_wrongAt : Int32) (s_letters : Int64) (s_acts : Int32) (s_images : Int32) (s_ways : Int32) (s_victims : Int32) (s_backs : Int32) (s_ordered : Int32) (s_hitNow : Int32) (s_hitsNow : Int32) (s_plainHit : Int32) (s_plainBack : Int32) (s_fitsNow : Int32) (s_someNow : Int32) (s_everyNow : Int32) (s_askLeft : Int32) (s_drawn : Int32) (s_read_sets : Int32) (s_read_ways : Int32) (s_read_lines : Int32) (s_read_told : Int32) (s_read_steps : Int32) (s_read_unsures : Int32) (s_read_saws : Int32) (s_read_hit : Int32) (s_read_weighed : Int32) (s_tape : (Nat → Int32)) (v_cache : Value) (v_v0 : Value) (v_x : Value) (v_past : Value) (v_kept : Value) (v_order : Value) (v_plainLine : Value) (v_plainDirty : Value) (v_otherIn : Value) (v_read_memory : Value) (v_read_line : Value) (v_read_at : Value) (v_read_put : Value) (v_read_unsure : Value) (v_read_may : Value) (v_read_saw : Value) (a1 : Int32) (a2 : Int32) (x : Int32 × Int32 × Int32 × Int32 × Int32 × Int32 × Int64) (hf : fX7_lineBegins s_size s_spot s_sort s_place s_number s_fault s_wrongAt s_letters s_read_sets s_tape a1 a2 = some x) (l : Launch) (sz : Nat) : zM l yX7_lineBegins cX7_lineBegins 3 none { frames := 2, cells := 0, slots := 0, locals := 43 } E [.ref q_this, .int a1, .int a2] [(q_this, .inr (6, [.int s_thrown, .int s_trouble, .int s_where, v_cache, .ref q_read, .ref q_tape, .int s_taped, .int s_size, .int s_spot, .int s_sort, .int s_place, .int s_number, .int s_fault, .int s_wrongAt, .long s_letters, v_v0, v_x, v_past, v_kept, .int s_acts, .int s_images, .int s_ways, .int s_victims, .int s_backs, v_order, .int s_ordered, .int s_hitNow, .int s_hitsNow, v_plainLine, v_plainDirty, .int s_plainHit, .int s_plainBack, .int s_fitsNow, .int s_someNow, .int s_everyNow, v_otherIn, .int s_askLeft, .int s_drawn])), (q_read, .inr (5, [.int s_read_sets, .int s_read_ways, .int s_read_lines, .int s_read_told, .int s_read_steps, .int s_read_unsures, .int s_read_saws, .int s_read_hit, .int s_read_weighed, v_read_memory, v_read_line, v_read_at, v_read_put, v_read_unsure, v_read_may, v_read_saw])), (q_tape, .inl (E.2.1 1, 1200, .inl s_tape))] sz none [(q_this, .inr (6, [.int s_thrown, .int s_trouble, .int s_where, v_cache, .ref q_read, .ref q_tape, .int s_taped, .int s_size, .int x.1, .int x.2.1, .int x.2.2.1, .int x.2.2.2.1, .int x.2.2.2.2.1, .int x.2.2.2.2.2.1, .long x.2.2.2.2.2.2, v_v0, v_x, v_past, v_kept, .int s_acts, .int s_images, .int s_ways, .int s_victims, .int s_backs, v_order, .int s_ordered, .int s_hitNow, .int s_hitsNow, v_plainLine, v_plainDirty, .int s_plainHit, .int s_plainBack, .int s_fitsNow, .int s_someNow, .int s_everyNow, v_otherIn, .int s_askLeft, .int s_drawn])), (q_read, .inr (5, [.int s_read_sets, .int s_read_ways, .int s_read_lines, .int s_read_told, .int s_read_steps, .int s_read_unsures, .int s_read_saws, .int s_read_hit, .int s_read_weighed, v_read_memory, v_read_line, v_read_at, v_read_put, v_read_unsure, v_read_may, v_read_saw])), (q_tape, .inl (E.2.1 1, 1200, .inl s_tape))] := by
  refine zEnter (by decide) (Nat.le_of_ble_eq_true rfl) ?_
  intro C hC hR
  change zC C E cX7_lineBegins "PackedCacheModel" 3 _ at hC
  have B26 : ∀ (s_spot : Int32) (s_sort : Int32) (s_place : Int32) (s_number : Int32) (s_fault : Int32) (s_wrongAt : Int32) (s_letters : Int64), fX7_lineBegins_26 s_size s_read_sets s_tape  s_spot s_sort s_place s_number s_fault s_wrongAt s_letters = some x → J C 0 0 [(q_this, .inr (6, [.int s_thrown, .int s_trouble, .int s_where, v_cache, .ref q_read, .ref q_tape, .int s_taped, .int s_size, .int s_spot, .int s_sort, .int s_place, .int s_number, .int s_fault, .int s_wrongAt, .long s_letters, v_v0, v_x, v_past, v_kept, .int s_acts, .int s_images, .int s_ways, .int s_victims, .int s_backs, v_order, .int s_ordered, .int s_hitNow, .int s_hitsNow, v_plainLine, v_plainDirty, .int s_plainHit, .int s_plainBack, .int s_fitsNow, .int s_someNow, .int s_everyNow, v_otherIn, .int s_askLeft, .int s_drawn])), (q_read, .inr (5, [.int s_read_sets, .int s_read_ways, .int s_read_lines, .int s_read_told, .int s_read_steps, .int s_read_unsures, .int s_read_saws, .int s_read_hit, .int s_read_weighed, v_read_memory, v_read_line, v_read_at, v_read_put, v_read_unsure, v_read_may, v_read_saw])), (q_tape, .inl (E.2.1 1, 1200, .inl s_tape))] [(0, .ref q_this)] 26 [] := by
    intro  s_spot s_sort s_place s_number s_fault s_wrongAt s_letters hf
    unfold fX7_lineBegins_26 at hf
    refine j_aload_n (q := 27) hC dX7_lineBegins_26 rfl rfl 0 rfl ?_
    refine j_callV (q := 30) hC [] [] (fun x1 : Int32 × Int32 × Int32 × Int32 × Int64 => none) (fun x1 => [(q_this, .inr (6, [.int s_thrown, .int s_trouble, .int s_where, v_cache, .ref q_read, .ref q_tape, .int s_taped, .int s_size, .int x1.1, .int x1.2.1, .int x1.2.2.1, .int x1.2.2.2.1, .int s_fault, .int s_wrongAt, .long x1.2.2.2.2, v_v0, v_x, v_past, v_kept, .int s_acts, .int s_images, .int s_ways, .int s_victims, .int s_backs, v_order, .int s_ordered, .int s_hitNow, .int s_hitsNow, v_plainLine, v_plainDirty, .int s_plainHit, .int s_plainBack, .int s_fitsNow, .int s_someNow, .int s_everyNow, v_otherIn, .int s_askLeft, .int s_drawn])), (q_tape, .inl (E.2.1 1, 1200, .inl s_tape))]) (fun x1 => [(q_this, .inr (6, [.int s_thrown, .int s_trouble, .int s_where, v_cache, .ref q_read, .ref q_tape, .int s_taped, .int s_size, .int x1.1, .int x1.2.1, .int x1.2.2.1, .int x1.2.2.2.1, .int s_fault, .int s_wrongAt, .long x1.2.2.2.2, v_v0, v_x, v_past, v_kept, .int s_acts, .int s_images, .int s_ways, .int s_victims, .int s_backs, v_order, .int s_ordered, .int s_hitNow, .int s_hitsNow, v_plainLine, v_plainDirty, .int s_plainHit, .int s_plainBack, .int s_fitsNow, .int s_someNow, .int s_everyNow, v_otherIn, .int s_askLeft, .int s_drawn])), (q_read, .inr (5, [.int s_read_sets, .int s_read_ways, .int s_read_lines, .int s_read_told, .int s_read_steps, .int s_read_unsures, .int s_read_saws, .int s_read_hit, .int s_read_weighed, v_read_memory, v_read_line, v_read_at, v_read_put, v_read_unsure, v_read_may, v_read_saw])), (q_tape, .inl (E.2.1 1, 1200, .inl s_tape))]) (fun x1 => []) [0, 2] [1] hf (fun x1 hx => wX7_goesOn E q_this q_tape s_thrown s_trouble s_where s_taped s_size s_spot s_sort s_place s_number s_fault s_wrongAt s_letters s_acts s_images s_ways s_victims s_backs s_ordered s_hitNow s_hitsNow s_plainHit s_plainBack s_fitsNow s_someNow s_everyNow s_askLeft s_drawn s_tape (v_cache) (.ref q_read) (v_v0) (v_x) (v_past) (v_kept) (v_order) (v_plainLine) (v_plainDirty) (v_otherIn) x1  hx) zy_X7_goesOn zw_1095 (by unfold zRm; decide) rfl rfl (fun _ => rfl) (N := 3) (by decide) (fun _ => ⟨rfl, rfl, rfl⟩) rfl rfl rfl (Nat.le_of_ble_eq_true rfl) dX7_lineBegins_27 rfl rfl (fun _ => rfl) (fun x1 hf => ?_)
    have hx := Option.some.inj hf
    exact j_vret hC hR dX7_lineBegins_30 rfl (by rw [← hx])
  have B10 : ∀ (s_spot : Int32) (s_sort : Int32) (s_place : Int32) (s_number : Int32) (s_fault : Int32) (s_wrongAt : Int32) (s_letters : Int64), fX7_lineBegins_10 s_size s_read_sets s_tape  s_spot s_sort s_place s_number s_fault s_wrongAt s_letters = some x → J C 0 0 [(q_this, .inr (6, [.int s_thrown, .int s_trouble, .int s_where, v_cache, .ref q_read, .ref q_tape, .int s_taped, .int s_size, .int s_spot, .int s_sort, .int s_place, .int s_number, .int s_fault, .int s_wrongAt, .long s_letters, v_v0, v_x, v_past, v_kept, .int s_acts, .int s_images, .int s_ways, .int s_victims, .int s_backs, v_order, .int s_ordered, .int s_hitNow, .int s_hitsNow, v_plainLine, v_plainDirty, .int s_plainHit, .int s_plainBack, .int s_fitsNow, .int s_someNow, .int s_everyNow, v_otherIn, .int s_askLeft, .int s_drawn])), (q_read, .inr (5, [.int s_read_sets, .int s_read_ways, .int s_read_lines, .int s_read_told, .int s_read_steps, .int s_read_unsures, .int s_read_saws, .int s_read_hit, .int s_read_weighed, v_read_memory, v_read_line, v_read_at, v_read_put, v_read_unsure, v_read_may, v_read_saw])), (q_tape, .inl (E.2.1 1, 1200, .inl s_tape))] [(0, .ref q_this)] 10 [] := by
    intro  s_spot s_sort s_place s_number s_fault s_wrongAt s_letters hf
    unfold fX7_lineBegins_10 at hf
    refine j_aload_n (q := 11) hC dX7_lineBegins_10 rfl rfl 0 rfl ?_
    refine j_get (q := 14) hC zcl_X7 0 4 zw_905 ⟨rfl, rfl, by decide⟩ rfl rfl dX7_lineBegins_11 rfl ?_
    refine j_getN (q := 17) hC zcl_X6 1 0 zn_1039 ⟨rfl, rfl, by decide⟩ rfl rfl dX7_lineBegins_14 rfl ?_
    refine j_if_ne (tgt := 26) (q := 20) hC dX7_lineBegins_17 (by decide) rfl hf (fun _ hf => ?_) (fun _ hf => ?_)
    · exact B26  s_spot s_sort s_place s_number s_fault s_wrongAt s_letters hf
    · refine j_aload_n (q := 21) hC dX7_lineBegins_20 rfl rfl 0 rfl ?_
      refine j_bipush (q := 23) (v := 6) hC dX7_lineBegins_21 rfl (by decide) ?_
      refine j_callV (q := 26) hC [.int 6] [] (fun x1 : Int32 × Int32 × Int32 => none) (fun x1 => [(q_this, .inr (6, [.int s_thrown, .int s_trouble, .int s_where, v_cache, .ref q_read, .ref q_tape, .int s_taped, .int s_size, .int s_spot, .int x1.1, .int s_place, .int s_number, .int x1.2.1, .int x1.2.2, .long s_letters, v_v0, v_x, v_past, v_kept, .int s_acts, .int s_images, .int s_ways, .int s_victims, .int s_backs, v_order, .int s_ordered, .int s_hitNow, .int s_hitsNow, v_plainLine, v_plainDirty, .int s_plainHit, .int s_plainBack, .int s_fitsNow, .int s_someNow, .int s_everyNow, v_otherIn, .int s_askLeft, .int s_drawn]))]) (fun x1 => [(q_this, .inr (6, [.int s_thrown, .int s_trouble, .int s_where, v_cache, .ref q_read, .ref q_tape, .int s_taped, .int s_size, .int s_spot, .int x1.1, .int s_place, .int s_number, .int x1.2.1, .int x1.2.2, .long s_letters, v_v0, v_x, v_past, v_kept, .int s_acts, .int s_images, .int s_ways, .int s_victims, .int s_backs, v_order, .int s_ordered, .int s_hitNow, .int s_hitsNow, v_plainLine, v_plainDirty, .int s_plainHit, .int s_plainBack, .int s_fitsNow, .int s_someNow, .int s_everyNow, v_otherIn, .int s_askLeft, .int s_drawn])), (q_read, .inr (5, [.int s_read_sets, .int s_read_ways, .int s_read_lines, .int s_read_told, .int s_read_steps, .int s_read_unsures, .int s_read_saws, .int s_read_hit, .int s_read_weighed, v_read_memory, v_read_line, v_read_at, v_read_put, v_read_unsure, v_read_may, v_read_saw])), (q_tape, .inl (E.2.1 1, 1200, .inl s_tape))]) (fun x1 => []) [0] [1, 2] hf (fun x1 hx => wX7_flaw E q_this s_thrown s_trouble s_where s_taped s_size s_spot s_sort s_place s_number s_fault s_wrongAt s_letters s_acts s_images s_ways s_victims s_backs s_ordered s_hitNow s_hitsNow s_plainHit s_plainBack s_fitsNow s_someNow s_everyNow s_askLeft s_drawn (v_cache) (.ref q_read) (.ref q_tape) (v_v0) (v_x) (v_past) (v_kept) (v_order) (v_plainLine) (v_plainDirty) (v_otherIn) 6 x1  hx) zy_X7_flaw zw_1132 (by unfold zRm; decide) rfl rfl (fun _ => rfl) (N := 3) (by decide) (fun _ => ⟨rfl, rfl, rfl⟩) rfl rfl rfl (Nat.le_of_ble_eq_true rfl) dX7_lineBegins_23 rfl rfl (fun _ => rfl) (fun x1 hf => ?_)
      exact B26  s_spot x1.1 s_place s_number x1.2.1 x1.2.2 s_letters hf
  unfold fX7_lineBegins at hf
  refine j_sub (lv' := [(0, .ref q_this), (1, .int a1), (2, .int a2)]) [0, 1, 2] rfl ?_
  refine j_iload_n (q := 1) hC dX7_lineBegins_0 rfl rfl 1 rfl ?_
  refine j_iload_n (q := 2) hC dX7_lineBegins_1 rfl rfl 2 rfl ?_
  refine j_icmp_ne (tgt := 10) (q := 5) hC dX7_lineBegins_2 (by decide) rfl hf (fun _ hf => ?_) (fun _ hf => ?_)
  · refine j_sub (lv' := [(0, .ref q_this)]) [0] rfl ?_
    exact B10  s_spot s_sort s_place s_number s_fault s_wrongAt s_letters hf
  · refine j_aload_n (q := 6) hC dX7_lineBegins_5 rfl rfl 0 rfl ?_
    refine j_iconst (q := 7) (v := 5) hC dX7_lineBegins_6 rfl (by decide) ?_
    refine j_callV (q := 10) hC [.int 5] [] (fun x1 : Int32 × Int32 × Int32 => none) (fun x1 => [(q_this, .inr (6, [.int s_thrown, .int s_trouble, .int s_where, v_cache, .ref q_read, .ref q_tape, .int s_taped, .int s_size, .int s_spot, .int x1.1, .int s_place, .int s_number, .int x1.2.1, .int x1.2.2, .long s_letters, v_v0, v_x, v_past, v_kept, .int s_acts, .int s_images, .int s_ways, .int s_victims, .int s_backs, v_order, .int s_ordered, .int s_hitNow, .int s_hitsNow, v_plainLine, v_plainDirty, .int s_plainHit, .int s_plainBack, .int s_fitsNow, .int s_someNow, .int s_everyNow, v_otherIn, .int s_askLeft, .int s_drawn]))]) (fun x1 => [(q_this, .inr (6, [.int s_thrown, .int s_trouble, .int s_where, v_cache, .ref q_read, .ref q_tape, .int s_taped, .int s_size, .int s_spot, .int x1.1, .int s_place, .int s_number, .int x1.2.1, .int x1.2.2, .long s_letters, v_v0, v_x, v_past, v_kept, .int s_acts, .int s_images, .int s_ways, .int s_victims, .int s_backs, v_order, .int s_ordered, .int s_hitNow, .int s_hitsNow, v_plainLine, v_plainDirty, .int s_plainHit, .int s_plainBack, .int s_fitsNow, .int s_someNow, .int s_everyNow, v_otherIn, .int s_askLeft, .int s_drawn])), (q_read, .inr (5, [.int s_read_sets, .int s_read_ways, .int s_read_lines, .int s_read_told, .int s_read_steps, .int s_read_unsures, .int s_read_saws, .int s_read_hit, .int s_read_weighed, v_read_memory, v_read_line, v_read_at, v_read_put, v_read_unsure, v_read_may, v_read_saw])), (q_tape, .inl (E.2.1 1, 1200, .inl s_tape))]) (fun x1 => []) [0] [1, 2] hf (fun x1 hx => wX7_flaw E q_this s_thrown s_trouble s_where s_taped s_size s_spot s_sort s_place s_number s_fault s_wrongAt s_letters s_acts s_images s_ways s_victims s_backs s_ordered s_hitNow s_hitsNow s_plainHit s_plainBack s_fitsNow s_someNow s_everyNow s_askLeft s_drawn (v_cache) (.ref q_read) (.ref q_tape) (v_v0) (v_x) (v_past) (v_kept) (v_order) (v_plainLine) (v_plainDirty) (v_otherIn) 5 x1  hx) zy_X7_flaw zw_1132 (by unfold zRm; decide) rfl rfl (fun _ => rfl) (N := 3) (by decide) (fun _ => ⟨rfl, rfl, rfl⟩) rfl rfl rfl (Nat.le_of_ble_eq_true rfl) dX7_lineBegins_7 rfl rfl (fun _ => rfl) (fun x1 hf => ?_)
    refine j_sub (lv' := [(0, .ref q_this)]) [0] rfl ?_
    exact B10  s_spot x1.1 s_place s_number x1.2.1 x1.2.2 s_letters hf
noncomputable def fX6_stands_2 (n_a0 : Nat) (s_a0 : (Nat → Int32))  : Nat → Int32 → Int32 → Int32 → Option (Int32)
  | 0, _, _, _ => none
  | m + 1, b1, b2, b3 =>
    if b1 ≤ b3 then (some 0)
    else (zald s_a0 n_a0 b3 fun x1 =>
    if x1 = b2 then (some 1)
    else (zlet (b3 + 1) fun x2 =>
    fX6_stands_2 n_a0 s_a0  m b1 b2 x2))
noncomputable def fX6_stands (n_a0 : Nat) (s_a0 : (Nat → Int32)) (a1 : Int32) (a2 : Int32) : Option (Int32) :=
  fX6_stands_2 n_a0 s_a0  zF a1 a2 0
set_option maxHeartbeats 4000000 in
set_option maxRecDepth 100000 in
theorem wX6_stands (E : zE) (n_a0 : Nat) (q_a0 : Nat) (s_a0 : (Nat → Int32)) (a1 : Int32) (a2 : Int32) (x : Int32) (hf : fX6_stands n_a0 s_a0 a1 a2 = some x) (l : Launch) (sz : Nat) : zM l yX6_stands cX6_stands 4 (some .boolean) { frames := 0, cells := 0, slots := 0, locals := 0 } E [.ref q_a0, .int a1, .int a2] [(q_a0, .inl (E.2.1 0, n_a0, .inl s_a0))] sz (some (.int x)) [(q_a0, .inl (E.2.1 0, n_a0, .inl s_a0))] := by
  refine zEnter (by decide) (Nat.le_of_ble_eq_true rfl) ?_
  intro C hC hR
  change zC C E cX6_stands "PackedCacheModel$Cache" 4 _ at hC
  have B2 : ∀ (N : Nat), ∀ (b1 : Int32) (b2 : Int32) (b3 : Int32), fX6_stands_2 n_a0 s_a0  N b1 b2 b3 = some x → J C 0 0 [(q_a0, .inl (E.2.1 0, n_a0, .inl s_a0))] [(0, .ref q_a0), (1, .int b1), (2, .int b2), (3, .int b3)] 2 [] := by
    intro  N
    induction N with
    | zero =>
      intro b1 b2 b3 hf
      rw [fX6_stands_2] at hf
      cases hf
    | succ m ih =>
      intro b1 b2 b3 hf
      rw [fX6_stands_2] at hf
      refine j_iload_n (q := 3) hC dX6_stands_2 rfl rfl 3 rfl ?_
      refine j_iload_n (q := 4) hC dX6_stands_3 rfl rfl 1 rfl ?_
      refine j_icmp_ge (tgt := 22) (q := 7) hC dX6_stands_4 (by decide) rfl hf (fun _ hf => ?_) (fun _ hf => ?_)
      · refine j_iconst (q := 23) (v := 0) hC dX6_stands_22 rfl (by decide) ?_
        have hx := Option.some.inj hf
        exact j_zret hC hR rfl dX6_stands_23 (by rw [← hx]) rfl
      · refine j_aload_n (q := 8) hC dX6_stands_7 rfl rfl 0 rfl ?_
        refine j_iload_n (q := 9) hC dX6_stands_8 rfl rfl 3 rfl ?_
        refine j_iald (q := 10) hC 0 rfl dX6_stands_9 rfl hf (fun x1 hf => ?_)
        refine j_iload_n (q := 11) hC dX6_stands_10 rfl rfl 2 rfl ?_
        refine j_icmp_ne (tgt := 16) (q := 14) hC dX6_stands_11 (by decide) rfl hf (fun _ hf => ?_) (fun _ hf => ?_)
        · refine j_iinc (q := 19) (v := 1) hC (fun x2 => [(3, .int x2), (0, .ref q_a0), (1, .int b1), (2, .int b2)]) dX6_stands_16 rfl 3 rfl (by decide) (by decide) (fun _ => rfl) hf (fun x2 hf => ?_)
          refine j_goto (tgt := 2) hC dX6_stands_19 (by decide) ?_
          refine j_sub (lv' := [(0, .ref q_a0), (1, .int b1), (2, .int b2), (3, .int x2)]) [1, 2, 3, 0] rfl ?_
          exact ih b1 b2 x2 hf
        · refine j_iconst (q := 15) (v := 1) hC dX6_stands_14 rfl (by decide) ?_
          have hx := Option.some.inj hf
          exact j_zret hC hR rfl dX6_stands_15 (by rw [← hx]) rfl
  unfold fX6_stands at hf
  refine j_sub (lv' := [(0, .ref q_a0), (1, .int a1), (2, .int a2)]) [0, 1, 2] rfl ?_
  refine j_iconst (q := 1) (v := 0) hC dX6_stands_0 rfl (by decide) ?_
  refine j_istore_n (q := 2) (lv' := [(3, .int 0), (0, .ref q_a0), (1, .int a1), (2, .int a2)]) hC dX6_stands_1 rfl rfl (by decide) rfl ?_
  refine j_sub (lv' := [(0, .ref q_a0), (1, .int a1), (2, .int a2), (3, .int 0)]) [1, 2, 3, 0] rfl ?_
  exact B2  zF a1 a2 0 hf
noncomputable def fX7_readSaw_168 (s_size : Int32) (s_read_sets : Int32) (s_read_steps : Int32) (s_tape : (Nat → Int32))  (t0 : Int32) (t1 : Int32) (s_spot : Int32) (s_sort : Int32) (s_place : Int32) (s_number : Int32) (s_fault : Int32) (s_wrongAt : Int32) (s_letters : Int64) (s_read_saws : Int32) (s_read_hit : Int32) (s_read_saw : (Nat → Int32)) : Option (Int32 × Int32 × Int32 × Int32 × Int32 × Int32 × Int64 × Int32 × Int32 × (Nat → Int32)) :=
  zlet (t1 ||| t0 : Int32) fun x1 =>
    zlet (s_read_saws + 1 : Int32) fun x2 =>
    some (s_spot, s_sort, s_place, s_number, s_fault, s_wrongAt, s_letters, x2, x1, s_read_saw)
noncomputable def fX7_readSaw_114 (s_size : Int32) (s_read_sets : Int32) (s_read_steps : Int32) (s_tape : (Nat → Int32))  (b1 : Int32) (b2 : Int32) (s_spot : Int32) (s_sort : Int32) (s_place : Int32) (s_number : Int32) (s_fault : Int32) (s_wrongAt : Int32) (s_letters : Int64) (s_read_saws : Int32) (s_read_hit : Int32) (s_read_saw : (Nat → Int32)) : Option (Int32 × Int32 × Int32 × Int32 × Int32 × Int32 × Int64 × Int32 × Int32 × (Nat → Int32)) :=
  (fX7_goesOn s_size s_spot s_sort s_place s_number s_letters s_tape).bind fun x1 =>
    if x1.2.1 = 5 then (some (x1.1, x1.2.1, x1.2.2.1, x1.2.2.2.1, s_fault, s_wrongAt, x1.2.2.2.2, s_read_saws, s_read_hit, s_read_saw))
    else (zast s_read_saw 6 s_read_saws b1 fun x2 =>
    if b2 = 0 then (fX7_readSaw_168 s_size s_read_sets s_read_steps s_tape  0 s_read_hit x1.1 x1.2.1 x1.2.2.1 x1.2.2.2.1 s_fault s_wrongAt x1.2.2.2.2 s_read_saws s_read_hit x2)
    else (zlet (1 <<< (s_read_saws &&& 31) : Int32) fun x3 =>
    fX7_readSaw_168 s_size s_read_sets s_read_steps s_tape  x3 s_read_hit x1.1 x1.2.1 x1.2.2.1 x1.2.2.2.1 s_fault s_wrongAt x1.2.2.2.2 s_read_saws s_read_hit x2))
noncomputable def fX7_readSaw_80 (s_size : Int32) (s_read_sets : Int32) (s_read_steps : Int32) (s_tape : (Nat → Int32))  (s_spot : Int32) (s_sort : Int32) (s_place : Int32) (s_number : Int32) (s_fault : Int32) (s_wrongAt : Int32) (s_letters : Int64) (s_read_saws : Int32) (s_read_hit : Int32) (s_read_saw : (Nat → Int32)) : Option (Int32 × Int32 × Int32 × Int32 × Int32 × Int32 × Int64 × Int32 × Int32 × (Nat → Int32)) :=
  (fX7_goesOn s_size s_spot s_sort s_place s_number s_letters s_tape).bind fun x1 =>
    (fX7_isWord 23 x1.2.1 x1.2.2.2.2).bind fun x2 =>
    if x2 = 0 then ((fX7_isWord 24 x1.2.1 x1.2.2.2.2).bind fun x3 =>
    if x3 = 0 then ((fX7_flaw x1.2.1 x1.2.2.1 s_fault s_wrongAt 1).bind fun x4 =>
    fX7_readSaw_114 s_size s_read_sets s_read_steps s_tape  s_number x2 x1.1 x4.1 x1.2.2.1 x1.2.2.2.1 x4.2.1 x4.2.2 x1.2.2.2.2 s_read_saws s_read_hit s_read_saw)
    else (fX7_readSaw_114 s_size s_read_sets s_read_steps s_tape  s_number x2 x1.1 x1.2.1 x1.2.2.1 x1.2.2.2.1 s_fault s_wrongAt x1.2.2.2.2 s_read_saws s_read_hit s_read_saw))
    else (fX7_readSaw_114 s_size s_read_sets s_read_steps s_tape  s_number x2 x1.1 x1.2.1 x1.2.2.1 x1.2.2.2.1 s_fault s_wrongAt x1.2.2.2.2 s_read_saws s_read_hit s_read_saw)
noncomputable def fX7_readSaw (s_size : Int32) (s_spot : Int32) (s_sort : Int32) (s_place : Int32) (s_number : Int32) (s_fault : Int32) (s_wrongAt : Int32) (s_letters : Int64) (s_read_sets : Int32) (s_read_steps : Int32) (s_read_saws : Int32) (s_read_hit : Int32) (s_tape : (Nat → Int32)) (s_read_saw : (Nat → Int32)) : Option (Int32 × Int32 × Int32 × Int32 × Int32 × Int32 × Int64 × Int32 × Int32 × (Nat → Int32)) :=
  (fX7_lineBegins s_size s_spot s_sort s_place s_number s_fault s_wrongAt s_letters s_read_sets s_tape s_read_saws 6).bind fun x1 =>
    if x1.2.1 = 3 then (if x1.2.2.2.1 < s_read_steps then ((fX6_stands 6 s_read_saw s_read_saws x1.2.2.2.1).bind fun x2 =>
    if x2 = 0 then (fX7_readSaw_80 s_size s_read_sets s_read_steps s_tape  x1.1 x1.2.1 x1.2.2.1 x1.2.2.2.1 x1.2.2.2.2.1 x1.2.2.2.2.2.1 x1.2.2.2.2.2.2 s_read_saws s_read_hit s_read_saw)
    else ((fX7_flaw x1.2.1 x1.2.2.1 x1.2.2.2.2.1 x1.2.2.2.2.2.1 3).bind fun x3 =>
    fX7_readSaw_80 s_size s_read_sets s_read_steps s_tape  x1.1 x3.1 x1.2.2.1 x1.2.2.2.1 x3.2.1 x3.2.2 x1.2.2.2.2.2.2 s_read_saws s_read_hit s_read_saw))
    else ((fX7_flaw x1.2.1 x1.2.2.1 x1.2.2.2.2.1 x1.2.2.2.2.2.1 2).bind fun x4 =>
    fX7_readSaw_80 s_size s_read_sets s_read_steps s_tape  x1.1 x4.1 x1.2.2.1 x1.2.2.2.1 x4.2.1 x4.2.2 x1.2.2.2.2.2.2 s_read_saws s_read_hit s_read_saw))
    else ((fX7_flaw x1.2.1 x1.2.2.1 x1.2.2.2.2.1 x1.2.2.2.2.2.1 1).bind fun x5 =>
    fX7_readSaw_80 s_size s_read_sets s_read_steps s_tape  x1.1 x5.1 x1.2.2.1 x1.2.2.2.1 x5.2.1 x5.2.2 x1.2.2.2.2.2.2 s_read_saws s_read_hit s_read_saw)
set_option maxHeartbeats 4000000 in
set_option maxRecDepth 100000 in
theorem wX7_readSaw (E : zE) (q_this : Nat) (q_read : Nat) (q_tape : Nat) (q_read_saw : Nat) (s_thrown : Int32) (s_trouble : Int32) (s_where : Int32) (s_taped : Int32) (s_size : Int32) (s_spot : Int32) (s_sort : Int32) (s_place : Int32) (s_number : Int32) (s_fault : Int32) (s_wrongAt : Int32) (s_letters : Int64) (s_acts : Int32) (s_images : Int32) (s_ways : Int32) (s_victims : Int32) (s_backs : Int32) (s_ordered : Int32) (s_hitNow : Int32) (s_hitsNow : Int32) (s_plainHit : Int32) (s_plainBack : Int32) (s_fitsNow : Int32) (s_someNow : Int32) (s_everyNow : Int32) (s_askLeft : Int32) (s_drawn : Int32) (s_read_sets : Int32) (s_read_ways : Int32) (s_read_lines : Int32) (s_read_told : Int32) (s_read_steps : Int32) (s_read_unsures : Int32) (s_read_saws : Int32) (s_read_hit : Int32) (s_read_weighed : Int32) (s_tape : (Nat → Int32)) (s_read_saw : (Nat → Int32)) (v_cache : Value) (v_v0 : Value) (v_x : Value) (v_past : Value) (v_kept : Value) (v_order : Value) (v_plainLine : Value) (v_plainDirty : Value) (v_otherIn : Value) (v_read_memory : Value) (v_read_line : Value) (v_read_at : Value) (v_read_put : Value) (v_read_unsure : Value) (v_read_may : Value) (x : Int32 × Int32 × Int32 × Int32 × Int32 × Int32 × Int64 × Int32 × Int32 × (Nat → Int32)) (hf : fX7_readSaw s_size s_spot s_sort s_place s_number s_fault s_wrongAt s_letters s_read_sets s_read_steps s_read_saws s_read_hit s_tape s_read_saw = some x) (l : Launch) (sz : Nat) : zM l yX7_readSaw cX7_readSaw 3 none { frames := 6, cells := 0, slots := 0, locals := 129 } E [.ref q_this] [(q_this, .inr (6, [.int s_thrown, .int s_trouble, .int s_where, v_cache, .ref q_read, .ref q_tape, .int s_taped, .int s_size, .int s_spot, .int s_sort, .int s_place, .int s_number, .int s_fault, .int s_wrongAt, .long s_letters, v_v0, v_x, v_past, v_kept, .int s_acts, .int s_images, .int s_ways, .int s_victims, .int s_backs, v_order, .int s_ordered, .int s_hitNow, .int s_hitsNow, v_plainLine, v_plainDirty, .int s_plainHit, .int s_plainBack, .int s_fitsNow, .int s_someNow, .int s_everyNow, v_otherIn, .int s_askLeft, .int s_drawn])), (q_read, .inr (5, [.int s_read_sets, .int s_read_ways, .int s_read_lines, .int s_read_told, .int s_read_steps, .int s_read_unsures, .int s_read_saws, .int s_read_hit, .int s_read_weighed, v_read_memory, v_read_line, v_read_at, v_read_put, v_read_unsure, v_read_may, .ref q_read_saw])), (q_tape, .inl (E.2.1 1, 1200, .inl s_tape)), (q_read_saw, .inl (E.2.1 0, 6, .inl s_read_saw))] sz none [(q_this, .inr (6, [.int s_thrown, .int s_trouble, .int s_where, v_cache, .ref q_read, .ref q_tape, .int s_taped, .int s_size, .int x.1, .int x.2.1, .int x.2.2.1, .int x.2.2.2.1, .int x.2.2.2.2.1, .int x.2.2.2.2.2.1, .long x.2.2.2.2.2.2.1, v_v0, v_x, v_past, v_kept, .int s_acts, .int s_images, .int s_ways, .int s_victims, .int s_backs, v_order, .int s_ordered, .int s_hitNow, .int s_hitsNow, v_plainLine, v_plainDirty, .int s_plainHit, .int s_plainBack, .int s_fitsNow, .int s_someNow, .int s_everyNow, v_otherIn, .int s_askLeft, .int s_drawn])), (q_read, .inr (5, [.int s_read_sets, .int s_read_ways, .int s_read_lines, .int s_read_told, .int s_read_steps, .int s_read_unsures, .int x.2.2.2.2.2.2.2.1, .int x.2.2.2.2.2.2.2.2.1, .int s_read_weighed, v_read_memory, v_read_line, v_read_at, v_read_put, v_read_unsure, v_read_may, .ref q_read_saw])), (q_tape, .inl (E.2.1 1, 1200, .inl s_tape)), (q_read_saw, .inl (E.2.1 0, 6, .inl x.2.2.2.2.2.2.2.2.2))] := by
  refine zEnter (by decide) (Nat.le_of_ble_eq_true rfl) ?_
  intro C hC hR
  change zC C E cX7_readSaw "PackedCacheModel" 3 _ at hC
  have B168 : ∀ (t0 : Int32) (t1 : Int32) (s_spot : Int32) (s_sort : Int32) (s_place : Int32) (s_number : Int32) (s_fault : Int32) (s_wrongAt : Int32) (s_letters : Int64) (s_read_saws : Int32) (s_read_hit : Int32) (s_read_saw : (Nat → Int32)), fX7_readSaw_168 s_size s_read_sets s_read_steps s_tape  t0 t1 s_spot s_sort s_place s_number s_fault s_wrongAt s_letters s_read_saws s_read_hit s_read_saw = some x → J C 0 0 [(q_this, .inr (6, [.int s_thrown, .int s_trouble, .int s_where, v_cache, .ref q_read, .ref q_tape, .int s_taped, .int s_size, .int s_spot, .int s_sort, .int s_place, .int s_number, .int s_fault, .int s_wrongAt, .long s_letters, v_v0, v_x, v_past, v_kept, .int s_acts, .int s_images, .int s_ways, .int s_victims, .int s_backs, v_order, .int s_ordered, .int s_hitNow, .int s_hitsNow, v_plainLine, v_plainDirty, .int s_plainHit, .int s_plainBack, .int s_fitsNow, .int s_someNow, .int s_everyNow, v_otherIn, .int s_askLeft, .int s_drawn])), (q_read, .inr (5, [.int s_read_sets, .int s_read_ways, .int s_read_lines, .int s_read_told, .int s_read_steps, .int s_read_unsures, .int s_read_saws, .int s_read_hit, .int s_read_weighed, v_read_memory, v_read_line, v_read_at, v_read_put, v_read_unsure, v_read_may, .ref q_read_saw])), (q_tape, .inl (E.2.1 1, 1200, .inl s_tape)), (q_read_saw, .inl (E.2.1 0, 6, .inl s_read_saw))] [(0, .ref q_this)] 168 [.int t0, .int t1, .ref q_read] := by
    intro  t0 t1 s_spot s_sort s_place s_number s_fault s_wrongAt s_letters s_read_saws s_read_hit s_read_saw hf
    unfold fX7_readSaw_168 at hf
    refine j_ior (q := 169) hC dX7_readSaw_168 rfl hf (fun x1 hf => ?_)
    refine j_putN (q := 172) hC zcl_X6 1 7 (ws' := [(q_this, .inr (6, [.int s_thrown, .int s_trouble, .int s_where, v_cache, .ref q_read, .ref q_tape, .int s_taped, .int s_size, .int s_spot, .int s_sort, .int s_place, .int s_number, .int s_fault, .int s_wrongAt, .long s_letters, v_v0, v_x, v_past, v_kept, .int s_acts, .int s_images, .int s_ways, .int s_victims, .int s_backs, v_order, .int s_ordered, .int s_hitNow, .int s_hitsNow, v_plainLine, v_plainDirty, .int s_plainHit, .int s_plainBack, .int s_fitsNow, .int s_someNow, .int s_everyNow, v_otherIn, .int s_askLeft, .int s_drawn])), (q_read, .inr (5, [.int s_read_sets, .int s_read_ways, .int s_read_lines, .int s_read_told, .int s_read_steps, .int s_read_unsures, .int s_read_saws, .int x1, .int s_read_weighed, v_read_memory, v_read_line, v_read_at, v_read_put, v_read_unsure, v_read_may, .ref q_read_saw])), (q_tape, .inl (E.2.1 1, 1200, .inl s_tape)), (q_read_saw, .inl (E.2.1 0, 6, .inl s_read_saw))]) zn_1046 ⟨rfl, rfl, by decide, rfl⟩ rfl rfl rfl (Nat.le_of_ble_eq_true rfl) rfl dX7_readSaw_169 rfl ?_
    refine j_aload_n (q := 173) hC dX7_readSaw_172 rfl rfl 0 rfl ?_
    refine j_get (q := 176) hC zcl_X7 0 4 zw_905 ⟨rfl, rfl, by decide⟩ rfl rfl dX7_readSaw_173 rfl ?_
    refine j_dup (q := 177) hC dX7_readSaw_176 rfl rfl ?_
    refine j_getN (q := 180) hC zcl_X6 1 6 zn_1045 ⟨rfl, rfl, by decide⟩ rfl rfl dX7_readSaw_177 rfl ?_
    refine j_iconst (q := 181) (v := 1) hC dX7_readSaw_180 rfl (by decide) ?_
    refine j_iadd (q := 182) hC dX7_readSaw_181 rfl hf (fun x2 hf => ?_)
    refine j_putN (q := 185) hC zcl_X6 1 6 (ws' := [(q_this, .inr (6, [.int s_thrown, .int s_trouble, .int s_where, v_cache, .ref q_read, .ref q_tape, .int s_taped, .int s_size, .int s_spot, .int s_sort, .int s_place, .int s_number, .int s_fault, .int s_wrongAt, .long s_letters, v_v0, v_x, v_past, v_kept, .int s_acts, .int s_images, .int s_ways, .int s_victims, .int s_backs, v_order, .int s_ordered, .int s_hitNow, .int s_hitsNow, v_plainLine, v_plainDirty, .int s_plainHit, .int s_plainBack, .int s_fitsNow, .int s_someNow, .int s_everyNow, v_otherIn, .int s_askLeft, .int s_drawn])), (q_read, .inr (5, [.int s_read_sets, .int s_read_ways, .int s_read_lines, .int s_read_told, .int s_read_steps, .int s_read_unsures, .int x2, .int x1, .int s_read_weighed, v_read_memory, v_read_line, v_read_at, v_read_put, v_read_unsure, v_read_may, .ref q_read_saw])), (q_tape, .inl (E.2.1 1, 1200, .inl s_tape)), (q_read_saw, .inl (E.2.1 0, 6, .inl s_read_saw))]) zn_1045 ⟨rfl, rfl, by decide, rfl⟩ rfl rfl rfl (Nat.le_of_ble_eq_true rfl) rfl dX7_readSaw_182 rfl ?_
    have hx := Option.some.inj hf
    exact j_vret hC hR dX7_readSaw_185 rfl (by rw [← hx])
  have B114 : ∀ (b1 : Int32) (b2 : Int32) (s_spot : Int32) (s_sort : Int32) (s_place : Int32) (s_number : Int32) (s_fault : Int32) (s_wrongAt : Int32) (s_letters : Int64) (s_read_saws : Int32) (s_read_hit : Int32) (s_read_saw : (Nat → Int32)), fX7_readSaw_114 s_size s_read_sets s_read_steps s_tape  b1 b2 s_spot s_sort s_place s_number s_fault s_wrongAt s_letters s_read_saws s_read_hit s_read_saw = some x → J C 0 0 [(q_this, .inr (6, [.int s_thrown, .int s_trouble, .int s_where, v_cache, .ref q_read, .ref q_tape, .int s_taped, .int s_size, .int s_spot, .int s_sort, .int s_place, .int s_number, .int s_fault, .int s_wrongAt, .long s_letters, v_v0, v_x, v_past, v_kept, .int s_acts, .int s_images, .int s_ways, .int s_victims, .int s_backs, v_order, .int s_ordered, .int s_hitNow, .int s_hitsNow, v_plainLine, v_plainDirty, .int s_plainHit, .int s_plainBack, .int s_fitsNow, .int s_someNow, .int s_everyNow, v_otherIn, .int s_askLeft, .int s_drawn])), (q_read, .inr (5, [.int s_read_sets, .int s_read_ways, .int s_read_lines, .int s_read_told, .int s_read_steps, .int s_read_unsures, .int s_read_saws, .int s_read_hit, .int s_read_weighed, v_read_memory, v_read_line, v_read_at, v_read_put, v_read_unsure, v_read_may, .ref q_read_saw])), (q_tape, .inl (E.2.1 1, 1200, .inl s_tape)), (q_read_saw, .inl (E.2.1 0, 6, .inl s_read_saw))] [(0, .ref q_this), (1, .int b1), (2, .int b2)] 114 [] := by
    intro  b1 b2 s_spot s_sort s_place s_number s_fault s_wrongAt s_letters s_read_saws s_read_hit s_read_saw hf
    unfold fX7_readSaw_114 at hf
    refine j_aload_n (q := 115) hC dX7_readSaw_114 rfl rfl 0 rfl ?_
    refine j_callV (q := 118) hC [] [] (fun x1 : Int32 × Int32 × Int32 × Int32 × Int64 => none) (fun x1 => [(q_this, .inr (6, [.int s_thrown, .int s_trouble, .int s_where, v_cache, .ref q_read, .ref q_tape, .int s_taped, .int s_size, .int x1.1, .int x1.2.1, .int x1.2.2.1, .int x1.2.2.2.1, .int s_fault, .int s_wrongAt, .long x1.2.2.2.2, v_v0, v_x, v_past, v_kept, .int s_acts, .int s_images, .int s_ways, .int s_victims, .int s_backs, v_order, .int s_ordered, .int s_hitNow, .int s_hitsNow, v_plainLine, v_plainDirty, .int s_plainHit, .int s_plainBack, .int s_fitsNow, .int s_someNow, .int s_everyNow, v_otherIn, .int s_askLeft, .int s_drawn])), (q_tape, .inl (E.2.1 1, 1200, .inl s_tape))]) (fun x1 => [(q_this, .inr (6, [.int s_thrown, .int s_trouble, .int s_where, v_cache, .ref q_read, .ref q_tape, .int s_taped, .int s_size, .int x1.1, .int x1.2.1, .int x1.2.2.1, .int x1.2.2.2.1, .int s_fault, .int s_wrongAt, .long x1.2.2.2.2, v_v0, v_x, v_past, v_kept, .int s_acts, .int s_images, .int s_ways, .int s_victims, .int s_backs, v_order, .int s_ordered, .int s_hitNow, .int s_hitsNow, v_plainLine, v_plainDirty, .int s_plainHit, .int s_plainBack, .int s_fitsNow, .int s_someNow, .int s_everyNow, v_otherIn, .int s_askLeft, .int s_drawn])), (q_read, .inr (5, [.int s_read_sets, .int s_read_ways, .int s_read_lines, .int s_read_told, .int s_read_steps, .int s_read_unsures, .int s_read_saws, .int s_read_hit, .int s_read_weighed, v_read_memory, v_read_line, v_read_at, v_read_put, v_read_unsure, v_read_may, .ref q_read_saw])), (q_tape, .inl (E.2.1 1, 1200, .inl s_tape)), (q_read_saw, .inl (E.2.1 0, 6, .inl s_read_saw))]) (fun x1 => []) [0, 2] [1, 3] hf (fun x1 hx => wX7_goesOn E q_this q_tape s_thrown s_trouble s_where s_taped s_size s_spot s_sort s_place s_number s_fault s_wrongAt s_letters s_acts s_images s_ways s_victims s_backs s_ordered s_hitNow s_hitsNow s_plainHit s_plainBack s_fitsNow s_someNow s_everyNow s_askLeft s_drawn s_tape (v_cache) (.ref q_read) (v_v0) (v_x) (v_past) (v_kept) (v_order) (v_plainLine) (v_plainDirty) (v_otherIn) x1  hx) zy_X7_goesOn zw_1095 (by unfold zRm; decide) rfl rfl (fun _ => rfl) (N := 4) (by decide) (fun _ => ⟨rfl, rfl, rfl⟩) rfl rfl rfl (Nat.le_of_ble_eq_true rfl) dX7_readSaw_115 rfl rfl (fun _ => rfl) (fun x1 hf => ?_)
    refine j_aload_n (q := 119) hC dX7_readSaw_118 rfl rfl 0 rfl ?_
    refine j_get (q := 122) hC zcl_X7 0 9 zw_910 ⟨rfl, rfl, by decide⟩ rfl rfl dX7_readSaw_119 rfl ?_
    refine j_iconst (q := 123) (v := 5) hC dX7_readSaw_122 rfl (by decide) ?_
    refine j_icmp_ne (tgt := 127) (q := 126) hC dX7_readSaw_123 (by decide) rfl hf (fun _ hf => ?_) (fun _ hf => ?_)
    · refine j_aload_n (q := 128) hC dX7_readSaw_127 rfl rfl 0 rfl ?_
      refine j_get (q := 131) hC zcl_X7 0 4 zw_905 ⟨rfl, rfl, by decide⟩ rfl rfl dX7_readSaw_128 rfl ?_
      refine j_getN (q := 134) hC zcl_X6 1 15 zn_1061 ⟨rfl, rfl, by decide⟩ rfl rfl dX7_readSaw_131 rfl ?_
      refine j_aload_n (q := 135) hC dX7_readSaw_134 rfl rfl 0 rfl ?_
      refine j_get (q := 138) hC zcl_X7 0 4 zw_905 ⟨rfl, rfl, by decide⟩ rfl rfl dX7_readSaw_135 rfl ?_
      refine j_getN (q := 141) hC zcl_X6 1 6 zn_1045 ⟨rfl, rfl, by decide⟩ rfl rfl dX7_readSaw_138 rfl ?_
      refine j_iload_n (q := 142) hC dX7_readSaw_141 rfl rfl 1 rfl ?_
      refine j_iast (q := 143) hC (fun x2 => [(q_this, .inr (6, [.int s_thrown, .int s_trouble, .int s_where, v_cache, .ref q_read, .ref q_tape, .int s_taped, .int s_size, .int x1.1, .int x1.2.1, .int x1.2.2.1, .int x1.2.2.2.1, .int s_fault, .int s_wrongAt, .long x1.2.2.2.2, v_v0, v_x, v_past, v_kept, .int s_acts, .int s_images, .int s_ways, .int s_victims, .int s_backs, v_order, .int s_ordered, .int s_hitNow, .int s_hitsNow, v_plainLine, v_plainDirty, .int s_plainHit, .int s_plainBack, .int s_fitsNow, .int s_someNow, .int s_everyNow, v_otherIn, .int s_askLeft, .int s_drawn])), (q_read, .inr (5, [.int s_read_sets, .int s_read_ways, .int s_read_lines, .int s_read_told, .int s_read_steps, .int s_read_unsures, .int s_read_saws, .int s_read_hit, .int s_read_weighed, v_read_memory, v_read_line, v_read_at, v_read_put, v_read_unsure, v_read_may, .ref q_read_saw])), (q_tape, .inl (E.2.1 1, 1200, .inl s_tape)), (q_read_saw, .inl (E.2.1 0, 6, .inl x2))]) 3 rfl (fun _ => rfl) dX7_readSaw_142 rfl hf (fun x2 hf => ?_)
      refine j_aload_n (q := 144) hC dX7_readSaw_143 rfl rfl 0 rfl ?_
      refine j_get (q := 147) hC zcl_X7 0 4 zw_905 ⟨rfl, rfl, by decide⟩ rfl rfl dX7_readSaw_144 rfl ?_
      refine j_dup (q := 148) hC dX7_readSaw_147 rfl rfl ?_
      refine j_getN (q := 151) hC zcl_X6 1 7 zn_1046 ⟨rfl, rfl, by decide⟩ rfl rfl dX7_readSaw_148 rfl ?_
      refine j_iload_n (q := 152) hC dX7_readSaw_151 rfl rfl 2 rfl ?_
      refine j_if_eq (tgt := 167) (q := 155) hC dX7_readSaw_152 (by decide) rfl hf (fun _ hf => ?_) (fun _ hf => ?_)
      · refine j_iconst (q := 168) (v := 0) hC dX7_readSaw_167 rfl (by decide) ?_
        refine j_sub (lv' := [(0, .ref q_this)]) [0] rfl ?_
        exact B168  0 s_read_hit x1.1 x1.2.1 x1.2.2.1 x1.2.2.2.1 s_fault s_wrongAt x1.2.2.2.2 s_read_saws s_read_hit x2 hf
      · refine j_iconst (q := 156) (v := 1) hC dX7_readSaw_155 rfl (by decide) ?_
        refine j_aload_n (q := 157) hC dX7_readSaw_156 rfl rfl 0 rfl ?_
        refine j_get (q := 160) hC zcl_X7 0 4 zw_905 ⟨rfl, rfl, by decide⟩ rfl rfl dX7_readSaw_157 rfl ?_
        refine j_getN (q := 163) hC zcl_X6 1 6 zn_1045 ⟨rfl, rfl, by decide⟩ rfl rfl dX7_readSaw_160 rfl ?_
        refine j_ishl (q := 164) hC dX7_readSaw_163 rfl hf (fun x3 hf => ?_)
        refine j_goto (tgt := 168) hC dX7_readSaw_164 (by decide) ?_
        refine j_sub (lv' := [(0, .ref q_this)]) [0] rfl ?_
        exact B168  x3 s_read_hit x1.1 x1.2.1 x1.2.2.1 x1.2.2.2.1 s_fault s_wrongAt x1.2.2.2.2 s_read_saws s_read_hit x2 hf
    · have hx := Option.some.inj hf
      exact j_vret hC hR dX7_readSaw_126 rfl (by rw [← hx])
  have B80 : ∀ (s_spot : Int32) (s_sort : Int32) (s_place : Int32) (s_number : Int32) (s_fault : Int32) (s_wrongAt : Int32) (s_letters : Int64) (s_read_saws : Int32) (s_read_hit : Int32) (s_read_saw : (Nat → Int32)), fX7_readSaw_80 s_size s_read_sets s_read_steps s_tape  s_spot s_sort s_place s_number s_fault s_wrongAt s_letters s_read_saws s_read_hit s_read_saw = some x → J C 0 0 [(q_this, .inr (6, [.int s_thrown, .int s_trouble, .int s_where, v_cache, .ref q_read, .ref q_tape, .int s_taped, .int s_size, .int s_spot, .int s_sort, .int s_place, .int s_number, .int s_fault, .int s_wrongAt, .long s_letters, v_v0, v_x, v_past, v_kept, .int s_acts, .int s_images, .int s_ways, .int s_victims, .int s_backs, v_order, .int s_ordered, .int s_hitNow, .int s_hitsNow, v_plainLine, v_plainDirty, .int s_plainHit, .int s_plainBack, .int s_fitsNow, .int s_someNow, .int s_everyNow, v_otherIn, .int s_askLeft, .int s_drawn])), (q_read, .inr (5, [.int s_read_sets, .int s_read_ways, .int s_read_lines, .int s_read_told, .int s_read_steps, .int s_read_unsures, .int s_read_saws, .int s_read_hit, .int s_read_weighed, v_read_memory, v_read_line, v_read_at, v_read_put, v_read_unsure, v_read_may, .ref q_read_saw])), (q_tape, .inl (E.2.1 1, 1200, .inl s_tape)), (q_read_saw, .inl (E.2.1 0, 6, .inl s_read_saw))] [(0, .ref q_this)] 80 [] := by
    intro  s_spot s_sort s_place s_number s_fault s_wrongAt s_letters s_read_saws s_read_hit s_read_saw hf
    unfold fX7_readSaw_80 at hf
    refine j_aload_n (q := 81) hC dX7_readSaw_80 rfl rfl 0 rfl ?_
    refine j_get (q := 84) hC zcl_X7 0 11 zw_912 ⟨rfl, rfl, by decide⟩ rfl rfl dX7_readSaw_81 rfl ?_
    refine j_istore_n (q := 85) (lv' := [(1, .int s_number), (0, .ref q_this)]) hC dX7_readSaw_84 rfl rfl (by decide) rfl ?_
    refine j_aload_n (q := 86) hC dX7_readSaw_85 rfl rfl 1 rfl ?_
    refine j_callV (q := 89) hC [] [] (fun x1 : Int32 × Int32 × Int32 × Int32 × Int64 => none) (fun x1 => [(q_this, .inr (6, [.int s_thrown, .int s_trouble, .int s_where, v_cache, .ref q_read, .ref q_tape, .int s_taped, .int s_size, .int x1.1, .int x1.2.1, .int x1.2.2.1, .int x1.2.2.2.1, .int s_fault, .int s_wrongAt, .long x1.2.2.2.2, v_v0, v_x, v_past, v_kept, .int s_acts, .int s_images, .int s_ways, .int s_victims, .int s_backs, v_order, .int s_ordered, .int s_hitNow, .int s_hitsNow, v_plainLine, v_plainDirty, .int s_plainHit, .int s_plainBack, .int s_fitsNow, .int s_someNow, .int s_everyNow, v_otherIn, .int s_askLeft, .int s_drawn])), (q_tape, .inl (E.2.1 1, 1200, .inl s_tape))]) (fun x1 => [(q_this, .inr (6, [.int s_thrown, .int s_trouble, .int s_where, v_cache, .ref q_read, .ref q_tape, .int s_taped, .int s_size, .int x1.1, .int x1.2.1, .int x1.2.2.1, .int x1.2.2.2.1, .int s_fault, .int s_wrongAt, .long x1.2.2.2.2, v_v0, v_x, v_past, v_kept, .int s_acts, .int s_images, .int s_ways, .int s_victims, .int s_backs, v_order, .int s_ordered, .int s_hitNow, .int s_hitsNow, v_plainLine, v_plainDirty, .int s_plainHit, .int s_plainBack, .int s_fitsNow, .int s_someNow, .int s_everyNow, v_otherIn, .int s_askLeft, .int s_drawn])), (q_read, .inr (5, [.int s_read_sets, .int s_read_ways, .int s_read_lines, .int s_read_told, .int s_read_steps, .int s_read_unsures, .int s_read_saws, .int s_read_hit, .int s_read_weighed, v_read_memory, v_read_line, v_read_at, v_read_put, v_read_unsure, v_read_may, .ref q_read_saw])), (q_tape, .inl (E.2.1 1, 1200, .inl s_tape)), (q_read_saw, .inl (E.2.1 0, 6, .inl s_read_saw))]) (fun x1 => []) [0, 2] [1, 3] hf (fun x1 hx => wX7_goesOn E q_this q_tape s_thrown s_trouble s_where s_taped s_size s_spot s_sort s_place s_number s_fault s_wrongAt s_letters s_acts s_images s_ways s_victims s_backs s_ordered s_hitNow s_hitsNow s_plainHit s_plainBack s_fitsNow s_someNow s_everyNow s_askLeft s_drawn s_tape (v_cache) (.ref q_read) (v_v0) (v_x) (v_past) (v_kept) (v_order) (v_plainLine) (v_plainDirty) (v_otherIn) x1  hx) zy_X7_goesOn zw_1095 (by unfold zRm; decide) rfl rfl (fun _ => rfl) (N := 4) (by decide) (fun _ => ⟨rfl, rfl, rfl⟩) rfl rfl rfl (Nat.le_of_ble_eq_true rfl) dX7_readSaw_86 rfl rfl (fun _ => rfl) (fun x1 hf => ?_)
    refine j_aload_n (q := 90) hC dX7_readSaw_89 rfl rfl 1 rfl ?_
    refine j_ldcS (q := 92) hC 23 (tx := "hit") (bs := [104, 105, 116]) dX7_readSaw_90 rfl rfl ?_
    refine j_callV (q := 95) hC [.ref (E.2.2.2.1 23)] [] (fun x2 : Int32 => some (.int x2)) (fun x2 => [(q_this, .inr (6, [.int s_thrown, .int s_trouble, .int s_where, v_cache, .ref q_read, .ref q_tape, .int s_taped, .int s_size, .int x1.1, .int x1.2.1, .int x1.2.2.1, .int x1.2.2.2.1, .int s_fault, .int s_wrongAt, .long x1.2.2.2.2, v_v0, v_x, v_past, v_kept, .int s_acts, .int s_images, .int s_ways, .int s_victims, .int s_backs, v_order, .int s_ordered, .int s_hitNow, .int s_hitsNow, v_plainLine, v_plainDirty, .int s_plainHit, .int s_plainBack, .int s_fitsNow, .int s_someNow, .int s_everyNow, v_otherIn, .int s_askLeft, .int s_drawn]))]) (fun x2 => [(q_this, .inr (6, [.int s_thrown, .int s_trouble, .int s_where, v_cache, .ref q_read, .ref q_tape, .int s_taped, .int s_size, .int x1.1, .int x1.2.1, .int x1.2.2.1, .int x1.2.2.2.1, .int s_fault, .int s_wrongAt, .long x1.2.2.2.2, v_v0, v_x, v_past, v_kept, .int s_acts, .int s_images, .int s_ways, .int s_victims, .int s_backs, v_order, .int s_ordered, .int s_hitNow, .int s_hitsNow, v_plainLine, v_plainDirty, .int s_plainHit, .int s_plainBack, .int s_fitsNow, .int s_someNow, .int s_everyNow, v_otherIn, .int s_askLeft, .int s_drawn])), (q_read, .inr (5, [.int s_read_sets, .int s_read_ways, .int s_read_lines, .int s_read_told, .int s_read_steps, .int s_read_unsures, .int s_read_saws, .int s_read_hit, .int s_read_weighed, v_read_memory, v_read_line, v_read_at, v_read_put, v_read_unsure, v_read_may, .ref q_read_saw])), (q_tape, .inl (E.2.1 1, 1200, .inl s_tape)), (q_read_saw, .inl (E.2.1 0, 6, .inl s_read_saw))]) (fun x2 => [.int x2]) [0] [1, 2, 3] hf (fun x2 hx => wX7_isWord E q_this s_thrown s_trouble s_where s_taped s_size x1.1 x1.2.1 x1.2.2.1 x1.2.2.2.1 s_fault s_wrongAt x1.2.2.2.2 s_acts s_images s_ways s_victims s_backs s_ordered s_hitNow s_hitsNow s_plainHit s_plainBack s_fitsNow s_someNow s_everyNow s_askLeft s_drawn (v_cache) (.ref q_read) (.ref q_tape) (v_v0) (v_x) (v_past) (v_kept) (v_order) (v_plainLine) (v_plainDirty) (v_otherIn) 23 x2 (by decide) hx) zy_X7_isWord zw_1119 (by unfold zRm; decide) rfl rfl (fun _ => rfl) (N := 4) (by decide) (fun _ => ⟨rfl, rfl, rfl⟩) rfl rfl rfl (Nat.le_of_ble_eq_true rfl) dX7_readSaw_92 rfl rfl (fun _ => rfl) (fun x2 hf => ?_)
    refine j_istore_n (q := 96) (lv' := [(2, .int x2), (1, .int s_number), (0, .ref q_this)]) hC dX7_readSaw_95 rfl rfl (by decide) rfl ?_
    refine j_iload_n (q := 97) hC dX7_readSaw_96 rfl rfl 0 rfl ?_
    refine j_if_ne (tgt := 114) (q := 100) hC dX7_readSaw_97 (by decide) rfl hf (fun _ hf => ?_) (fun _ hf => ?_)
    · refine j_sub (lv' := [(0, .ref q_this), (1, .int s_number), (2, .int x2)]) [2, 1, 0] rfl ?_
      exact B114  s_number x2 x1.1 x1.2.1 x1.2.2.1 x1.2.2.2.1 s_fault s_wrongAt x1.2.2.2.2 s_read_saws s_read_hit s_read_saw hf
    · refine j_aload_n (q := 101) hC dX7_readSaw_100 rfl rfl 2 rfl ?_
      refine j_ldcS (q := 103) hC 24 (tx := "miss") (bs := [109, 105, 115, 115]) dX7_readSaw_101 rfl rfl ?_
      refine j_callV (q := 106) hC [.ref (E.2.2.2.1 24)] [] (fun x3 : Int32 => some (.int x3)) (fun x3 => [(q_this, .inr (6, [.int s_thrown, .int s_trouble, .int s_where, v_cache, .ref q_read, .ref q_tape, .int s_taped, .int s_size, .int x1.1, .int x1.2.1, .int x1.2.2.1, .int x1.2.2.2.1, .int s_fault, .int s_wrongAt, .long x1.2.2.2.2, v_v0, v_x, v_past, v_kept, .int s_acts, .int s_images, .int s_ways, .int s_victims, .int s_backs, v_order, .int s_ordered, .int s_hitNow, .int s_hitsNow, v_plainLine, v_plainDirty, .int s_plainHit, .int s_plainBack, .int s_fitsNow, .int s_someNow, .int s_everyNow, v_otherIn, .int s_askLeft, .int s_drawn]))]) (fun x3 => [(q_this, .inr (6, [.int s_thrown, .int s_trouble, .int s_where, v_cache, .ref q_read, .ref q_tape, .int s_taped, .int s_size, .int x1.1, .int x1.2.1, .int x1.2.2.1, .int x1.2.2.2.1, .int s_fault, .int s_wrongAt, .long x1.2.2.2.2, v_v0, v_x, v_past, v_kept, .int s_acts, .int s_images, .int s_ways, .int s_victims, .int s_backs, v_order, .int s_ordered, .int s_hitNow, .int s_hitsNow, v_plainLine, v_plainDirty, .int s_plainHit, .int s_plainBack, .int s_fitsNow, .int s_someNow, .int s_everyNow, v_otherIn, .int s_askLeft, .int s_drawn])), (q_read, .inr (5, [.int s_read_sets, .int s_read_ways, .int s_read_lines, .int s_read_told, .int s_read_steps, .int s_read_unsures, .int s_read_saws, .int s_read_hit, .int s_read_weighed, v_read_memory, v_read_line, v_read_at, v_read_put, v_read_unsure, v_read_may, .ref q_read_saw])), (q_tape, .inl (E.2.1 1, 1200, .inl s_tape)), (q_read_saw, .inl (E.2.1 0, 6, .inl s_read_saw))]) (fun x3 => [.int x3]) [0] [1, 2, 3] hf (fun x3 hx => wX7_isWord E q_this s_thrown s_trouble s_where s_taped s_size x1.1 x1.2.1 x1.2.2.1 x1.2.2.2.1 s_fault s_wrongAt x1.2.2.2.2 s_acts s_images s_ways s_victims s_backs s_ordered s_hitNow s_hitsNow s_plainHit s_plainBack s_fitsNow s_someNow s_everyNow s_askLeft s_drawn (v_cache) (.ref q_read) (.ref q_tape) (v_v0) (v_x) (v_past) (v_kept) (v_order) (v_plainLine) (v_plainDirty) (v_otherIn) 24 x3 (by decide) hx) zy_X7_isWord zw_1119 (by unfold zRm; decide) rfl rfl (fun _ => rfl) (N := 4) (by decide) (fun _ => ⟨rfl, rfl, rfl⟩) rfl rfl rfl (Nat.le_of_ble_eq_true rfl) dX7_readSaw_103 rfl rfl (fun _ => rfl) (fun x3 hf => ?_)
      refine j_if_ne (tgt := 114) (q := 109) hC dX7_readSaw_106 (by decide) rfl hf (fun _ hf => ?_) (fun _ hf => ?_)
      · refine j_sub (lv' := [(0, .ref q_this), (1, .int s_number), (2, .int x2)]) [2, 1, 0] rfl ?_
        exact B114  s_number x2 x1.1 x1.2.1 x1.2.2.1 x1.2.2.2.1 s_fault s_wrongAt x1.2.2.2.2 s_read_saws s_read_hit s_read_saw hf
      · refine j_aload_n (q := 110) hC dX7_readSaw_109 rfl rfl 2 rfl ?_
        refine j_iconst (q := 111) (v := 1) hC dX7_readSaw_110 rfl (by decide) ?_
        refine j_callV (q := 114) hC [.int 1] [] (fun x4 : Int32 × Int32 × Int32 => none) (fun x4 => [(q_this, .inr (6, [.int s_thrown, .int s_trouble, .int s_where, v_cache, .ref q_read, .ref q_tape, .int s_taped, .int s_size, .int x1.1, .int x4.1, .int x1.2.2.1, .int x1.2.2.2.1, .int x4.2.1, .int x4.2.2, .long x1.2.2.2.2, v_v0, v_x, v_past, v_kept, .int s_acts, .int s_images, .int s_ways, .int s_victims, .int s_backs, v_order, .int s_ordered, .int s_hitNow, .int s_hitsNow, v_plainLine, v_plainDirty, .int s_plainHit, .int s_plainBack, .int s_fitsNow, .int s_someNow, .int s_everyNow, v_otherIn, .int s_askLeft, .int s_drawn]))]) (fun x4 => [(q_this, .inr (6, [.int s_thrown, .int s_trouble, .int s_where, v_cache, .ref q_read, .ref q_tape, .int s_taped, .int s_size, .int x1.1, .int x4.1, .int x1.2.2.1, .int x1.2.2.2.1, .int x4.2.1, .int x4.2.2, .long x1.2.2.2.2, v_v0, v_x, v_past, v_kept, .int s_acts, .int s_images, .int s_ways, .int s_victims, .int s_backs, v_order, .int s_ordered, .int s_hitNow, .int s_hitsNow, v_plainLine, v_plainDirty, .int s_plainHit, .int s_plainBack, .int s_fitsNow, .int s_someNow, .int s_everyNow, v_otherIn, .int s_askLeft, .int s_drawn])), (q_read, .inr (5, [.int s_read_sets, .int s_read_ways, .int s_read_lines, .int s_read_told, .int s_read_steps, .int s_read_unsures, .int s_read_saws, .int s_read_hit, .int s_read_weighed, v_read_memory, v_read_line, v_read_at, v_read_put, v_read_unsure, v_read_may, .ref q_read_saw])), (q_tape, .inl (E.2.1 1, 1200, .inl s_tape)), (q_read_saw, .inl (E.2.1 0, 6, .inl s_read_saw))]) (fun x4 => []) [0] [1, 2, 3] hf (fun x4 hx => wX7_flaw E q_this s_thrown s_trouble s_where s_taped s_size x1.1 x1.2.1 x1.2.2.1 x1.2.2.2.1 s_fault s_wrongAt x1.2.2.2.2 s_acts s_images s_ways s_victims s_backs s_ordered s_hitNow s_hitsNow s_plainHit s_plainBack s_fitsNow s_someNow s_everyNow s_askLeft s_drawn (v_cache) (.ref q_read) (.ref q_tape) (v_v0) (v_x) (v_past) (v_kept) (v_order) (v_plainLine) (v_plainDirty) (v_otherIn) 1 x4  hx) zy_X7_flaw zw_1132 (by unfold zRm; decide) rfl rfl (fun _ => rfl) (N := 4) (by decide) (fun _ => ⟨rfl, rfl, rfl⟩) rfl rfl rfl (Nat.le_of_ble_eq_true rfl) dX7_readSaw_111 rfl rfl (fun _ => rfl) (fun x4 hf => ?_)
        refine j_sub (lv' := [(0, .ref q_this), (1, .int s_number), (2, .int x2)]) [2, 1, 0] rfl ?_
        exact B114  s_number x2 x1.1 x4.1 x1.2.2.1 x1.2.2.2.1 x4.2.1 x4.2.2 x1.2.2.2.2 s_read_saws s_read_hit s_read_saw hf
  unfold fX7_readSaw at hf
  refine j_sub (lv' := [(0, .ref q_this)]) [0] rfl ?_
  refine j_aload_n (q := 1) hC dX7_readSaw_0 rfl rfl 0 rfl ?_
  refine j_aload_n (q := 2) hC dX7_readSaw_1 rfl rfl 0 rfl ?_
  refine j_get (q := 5) hC zcl_X7 0 4 zw_905 ⟨rfl, rfl, by decide⟩ rfl rfl dX7_readSaw_2 rfl ?_
  refine j_getN (q := 8) hC zcl_X6 1 6 zn_1045 ⟨rfl, rfl, by decide⟩ rfl rfl dX7_readSaw_5 rfl ?_
  refine j_bipush (q := 10) (v := 6) hC dX7_readSaw_8 rfl (by decide) ?_
  refine j_callV (q := 13) hC [.int s_read_saws, .int 6] [] (fun x1 : Int32 × Int32 × Int32 × Int32 × Int32 × Int32 × Int64 => none) (fun x1 => [(q_this, .inr (6, [.int s_thrown, .int s_trouble, .int s_where, v_cache, .ref q_read, .ref q_tape, .int s_taped, .int s_size, .int x1.1, .int x1.2.1, .int x1.2.2.1, .int x1.2.2.2.1, .int x1.2.2.2.2.1, .int x1.2.2.2.2.2.1, .long x1.2.2.2.2.2.2, v_v0, v_x, v_past, v_kept, .int s_acts, .int s_images, .int s_ways, .int s_victims, .int s_backs, v_order, .int s_ordered, .int s_hitNow, .int s_hitsNow, v_plainLine, v_plainDirty, .int s_plainHit, .int s_plainBack, .int s_fitsNow, .int s_someNow, .int s_everyNow, v_otherIn, .int s_askLeft, .int s_drawn])), (q_read, .inr (5, [.int s_read_sets, .int s_read_ways, .int s_read_lines, .int s_read_told, .int s_read_steps, .int s_read_unsures, .int s_read_saws, .int s_read_hit, .int s_read_weighed, v_read_memory, v_read_line, v_read_at, v_read_put, v_read_unsure, v_read_may, .ref q_read_saw])), (q_tape, .inl (E.2.1 1, 1200, .inl s_tape))]) (fun x1 => [(q_this, .inr (6, [.int s_thrown, .int s_trouble, .int s_where, v_cache, .ref q_read, .ref q_tape, .int s_taped, .int s_size, .int x1.1, .int x1.2.1, .int x1.2.2.1, .int x1.2.2.2.1, .int x1.2.2.2.2.1, .int x1.2.2.2.2.2.1, .long x1.2.2.2.2.2.2, v_v0, v_x, v_past, v_kept, .int s_acts, .int s_images, .int s_ways, .int s_victims, .int s_backs, v_order, .int s_ordered, .int s_hitNow, .int s_hitsNow, v_plainLine, v_plainDirty, .int s_plainHit, .int s_plainBack, .int s_fitsNow, .int s_someNow, .int s_everyNow, v_otherIn, .int s_askLeft, .int s_drawn])), (q_read, .inr (5, [.int s_read_sets, .int s_read_ways, .int s_read_lines, .int s_read_told, .int s_read_steps, .int s_read_unsures, .int s_read_saws, .int s_read_hit, .int s_read_weighed, v_read_memory, v_read_line, v_read_at, v_read_put, v_read_unsure, v_read_may, .ref q_read_saw])), (q_tape, .inl (E.2.1 1, 1200, .inl s_tape)), (q_read_saw, .inl (E.2.1 0, 6, .inl s_read_saw))]) (fun x1 => []) [0, 1, 2] [3] hf (fun x1 hx => wX7_lineBegins E q_this q_read q_tape s_thrown s_trouble s_where s_taped s_size s_spot s_sort s_place s_number s_fault s_wrongAt s_letters s_acts s_images s_ways s_victims s_backs s_ordered s_hitNow s_hitsNow s_plainHit s_plainBack s_fitsNow s_someNow s_everyNow s_askLeft s_drawn s_read_sets s_read_ways s_read_lines s_read_told s_read_steps s_read_unsures s_read_saws s_read_hit s_read_weighed s_tape (v_cache) (v_v0) (v_x) (v_past) (v_kept) (v_order) (v_plainLine) (v_plainDirty) (v_otherIn) (v_read_memory) (v_read_line) (v_read_at) (v_read_put) (v_read_unsure) (v_read_may) (.ref q_read_saw) s_read_saws 6 x1  hx) zy_X7_lineBegins zw_1164 (by unfold zRm; decide) rfl rfl (fun _ => rfl) (N := 4) (by decide) (fun _ => ⟨rfl, rfl, rfl⟩) rfl rfl rfl (Nat.le_of_ble_eq_true rfl) dX7_readSaw_10 rfl rfl (fun _ => rfl) (fun x1 hf => ?_)
  refine j_aload_n (q := 14) hC dX7_readSaw_13 rfl rfl 0 rfl ?_
  refine j_get (q := 17) hC zcl_X7 0 9 zw_910 ⟨rfl, rfl, by decide⟩ rfl rfl dX7_readSaw_14 rfl ?_
  refine j_iconst (q := 18) (v := 3) hC dX7_readSaw_17 rfl (by decide) ?_
  refine j_icmp_eq (tgt := 29) (q := 21) hC dX7_readSaw_18 (by decide) rfl hf (fun _ hf => ?_) (fun _ hf => ?_)
  · refine j_aload_n (q := 30) hC dX7_readSaw_29 rfl rfl 0 rfl ?_
    refine j_get (q := 33) hC zcl_X7 0 11 zw_912 ⟨rfl, rfl, by decide⟩ rfl rfl dX7_readSaw_30 rfl ?_
    refine j_aload_n (q := 34) hC dX7_readSaw_33 rfl rfl 0 rfl ?_
    refine j_get (q := 37) hC zcl_X7 0 4 zw_905 ⟨rfl, rfl, by decide⟩ rfl rfl dX7_readSaw_34 rfl ?_
    refine j_getN (q := 40) hC zcl_X6 1 4 zn_1043 ⟨rfl, rfl, by decide⟩ rfl rfl dX7_readSaw_37 rfl ?_
    refine j_icmp_lt (tgt := 51) (q := 43) hC dX7_readSaw_40 (by decide) rfl hf (fun _ hf => ?_) (fun _ hf => ?_)
    · refine j_aload_n (q := 52) hC dX7_readSaw_51 rfl rfl 0 rfl ?_
      refine j_get (q := 55) hC zcl_X7 0 4 zw_905 ⟨rfl, rfl, by decide⟩ rfl rfl dX7_readSaw_52 rfl ?_
      refine j_getN (q := 58) hC zcl_X6 1 15 zn_1061 ⟨rfl, rfl, by decide⟩ rfl rfl dX7_readSaw_55 rfl ?_
      refine j_aload_n (q := 59) hC dX7_readSaw_58 rfl rfl 0 rfl ?_
      refine j_get (q := 62) hC zcl_X7 0 4 zw_905 ⟨rfl, rfl, by decide⟩ rfl rfl dX7_readSaw_59 rfl ?_
      refine j_getN (q := 65) hC zcl_X6 1 6 zn_1045 ⟨rfl, rfl, by decide⟩ rfl rfl dX7_readSaw_62 rfl ?_
      refine j_aload_n (q := 66) hC dX7_readSaw_65 rfl rfl 0 rfl ?_
      refine j_get (q := 69) hC zcl_X7 0 11 zw_912 ⟨rfl, rfl, by decide⟩ rfl rfl dX7_readSaw_66 rfl ?_
      refine j_callSN (q := 72) hC [.ref q_read_saw, .int s_read_saws, .int x1.2.2.2.1] [] (fun x2 : Int32 => some (.int x2)) (fun x2 => [(q_read_saw, .inl (E.2.1 0, 6, .inl s_read_saw))]) (fun x2 => [(q_this, .inr (6, [.int s_thrown, .int s_trouble, .int s_where, v_cache, .ref q_read, .ref q_tape, .int s_taped, .int s_size, .int x1.1, .int x1.2.1, .int x1.2.2.1, .int x1.2.2.2.1, .int x1.2.2.2.2.1, .int x1.2.2.2.2.2.1, .long x1.2.2.2.2.2.2, v_v0, v_x, v_past, v_kept, .int s_acts, .int s_images, .int s_ways, .int s_victims, .int s_backs, v_order, .int s_ordered, .int s_hitNow, .int s_hitsNow, v_plainLine, v_plainDirty, .int s_plainHit, .int s_plainBack, .int s_fitsNow, .int s_someNow, .int s_everyNow, v_otherIn, .int s_askLeft, .int s_drawn])), (q_read, .inr (5, [.int s_read_sets, .int s_read_ways, .int s_read_lines, .int s_read_told, .int s_read_steps, .int s_read_unsures, .int s_read_saws, .int s_read_hit, .int s_read_weighed, v_read_memory, v_read_line, v_read_at, v_read_put, v_read_unsure, v_read_may, .ref q_read_saw])), (q_tape, .inl (E.2.1 1, 1200, .inl s_tape)), (q_read_saw, .inl (E.2.1 0, 6, .inl s_read_saw))]) (fun x2 => [.int x2]) [3] [0, 1, 2] hf (fun x2 hx => wX6_stands E 6 q_read_saw s_read_saw s_read_saws x1.2.2.2.1 x2  hx) zy_X6_stands zn_1183 (by unfold zRm; decide) rfl rfl (fun _ => rfl) (N := 4) (by decide) (fun _ => ⟨rfl, rfl, rfl⟩) rfl (Nat.le_of_ble_eq_true rfl) dX7_readSaw_69 rfl rfl (fun _ => rfl) (fun x2 hf => ?_)
      refine j_if_eq (tgt := 80) (q := 75) hC dX7_readSaw_72 (by decide) rfl hf (fun _ hf => ?_) (fun _ hf => ?_)
      · exact B80  x1.1 x1.2.1 x1.2.2.1 x1.2.2.2.1 x1.2.2.2.2.1 x1.2.2.2.2.2.1 x1.2.2.2.2.2.2 s_read_saws s_read_hit s_read_saw hf
      · refine j_aload_n (q := 76) hC dX7_readSaw_75 rfl rfl 0 rfl ?_
        refine j_iconst (q := 77) (v := 3) hC dX7_readSaw_76 rfl (by decide) ?_
        refine j_callV (q := 80) hC [.int 3] [] (fun x3 : Int32 × Int32 × Int32 => none) (fun x3 => [(q_this, .inr (6, [.int s_thrown, .int s_trouble, .int s_where, v_cache, .ref q_read, .ref q_tape, .int s_taped, .int s_size, .int x1.1, .int x3.1, .int x1.2.2.1, .int x1.2.2.2.1, .int x3.2.1, .int x3.2.2, .long x1.2.2.2.2.2.2, v_v0, v_x, v_past, v_kept, .int s_acts, .int s_images, .int s_ways, .int s_victims, .int s_backs, v_order, .int s_ordered, .int s_hitNow, .int s_hitsNow, v_plainLine, v_plainDirty, .int s_plainHit, .int s_plainBack, .int s_fitsNow, .int s_someNow, .int s_everyNow, v_otherIn, .int s_askLeft, .int s_drawn]))]) (fun x3 => [(q_this, .inr (6, [.int s_thrown, .int s_trouble, .int s_where, v_cache, .ref q_read, .ref q_tape, .int s_taped, .int s_size, .int x1.1, .int x3.1, .int x1.2.2.1, .int x1.2.2.2.1, .int x3.2.1, .int x3.2.2, .long x1.2.2.2.2.2.2, v_v0, v_x, v_past, v_kept, .int s_acts, .int s_images, .int s_ways, .int s_victims, .int s_backs, v_order, .int s_ordered, .int s_hitNow, .int s_hitsNow, v_plainLine, v_plainDirty, .int s_plainHit, .int s_plainBack, .int s_fitsNow, .int s_someNow, .int s_everyNow, v_otherIn, .int s_askLeft, .int s_drawn])), (q_read, .inr (5, [.int s_read_sets, .int s_read_ways, .int s_read_lines, .int s_read_told, .int s_read_steps, .int s_read_unsures, .int s_read_saws, .int s_read_hit, .int s_read_weighed, v_read_memory, v_read_line, v_read_at, v_read_put, v_read_unsure, v_read_may, .ref q_read_saw])), (q_tape, .inl (E.2.1 1, 1200, .inl s_tape)), (q_read_saw, .inl (E.2.1 0, 6, .inl s_read_saw))]) (fun x3 => []) [0] [1, 2, 3] hf (fun x3 hx => wX7_flaw E q_this s_thrown s_trouble s_where s_taped s_size x1.1 x1.2.1 x1.2.2.1 x1.2.2.2.1 x1.2.2.2.2.1 x1.2.2.2.2.2.1 x1.2.2.2.2.2.2 s_acts s_images s_ways s_victims s_backs s_ordered s_hitNow s_hitsNow s_plainHit s_plainBack s_fitsNow s_someNow s_everyNow s_askLeft s_drawn (v_cache) (.ref q_read) (.ref q_tape) (v_v0) (v_x) (v_past) (v_kept) (v_order) (v_plainLine) (v_plainDirty) (v_otherIn) 3 x3  hx) zy_X7_flaw zw_1132 (by unfold zRm; decide) rfl rfl (fun _ => rfl) (N := 4) (by decide) (fun _ => ⟨rfl, rfl, rfl⟩) rfl rfl rfl (Nat.le_of_ble_eq_true rfl) dX7_readSaw_77 rfl rfl (fun _ => rfl) (fun x3 hf => ?_)
        exact B80  x1.1 x3.1 x1.2.2.1 x1.2.2.2.1 x3.2.1 x3.2.2 x1.2.2.2.2.2.2 s_read_saws s_read_hit s_read_saw hf
    · refine j_aload_n (q := 44) hC dX7_readSaw_43 rfl rfl 0 rfl ?_
      refine j_iconst (q := 45) (v := 2) hC dX7_readSaw_44 rfl (by decide) ?_
      refine j_callV (q := 48) hC [.int 2] [] (fun x4 : Int32 × Int32 × Int32 => none) (fun x4 => [(q_this, .inr (6, [.int s_thrown, .int s_trouble, .int s_where, v_cache, .ref q_read, .ref q_tape, .int s_taped, .int s_size, .int x1.1, .int x4.1, .int x1.2.2.1, .int x1.2.2.2.1, .int x4.2.1, .int x4.2.2, .long x1.2.2.2.2.2.2, v_v0, v_x, v_past, v_kept, .int s_acts, .int s_images, .int s_ways, .int s_victims, .int s_backs, v_order, .int s_ordered, .int s_hitNow, .int s_hitsNow, v_plainLine, v_plainDirty, .int s_plainHit, .int s_plainBack, .int s_fitsNow, .int s_someNow, .int s_everyNow, v_otherIn, .int s_askLeft, .int s_drawn]))]) (fun x4 => [(q_this, .inr (6, [.int s_thrown, .int s_trouble, .int s_where, v_cache, .ref q_read, .ref q_tape, .int s_taped, .int s_size, .int x1.1, .int x4.1, .int x1.2.2.1, .int x1.2.2.2.1, .int x4.2.1, .int x4.2.2, .long x1.2.2.2.2.2.2, v_v0, v_x, v_past, v_kept, .int s_acts, .int s_images, .int s_ways, .int s_victims, .int s_backs, v_order, .int s_ordered, .int s_hitNow, .int s_hitsNow, v_plainLine, v_plainDirty, .int s_plainHit, .int s_plainBack, .int s_fitsNow, .int s_someNow, .int s_everyNow, v_otherIn, .int s_askLeft, .int s_drawn])), (q_read, .inr (5, [.int s_read_sets, .int s_read_ways, .int s_read_lines, .int s_read_told, .int s_read_steps, .int s_read_unsures, .int s_read_saws, .int s_read_hit, .int s_read_weighed, v_read_memory, v_read_line, v_read_at, v_read_put, v_read_unsure, v_read_may, .ref q_read_saw])), (q_tape, .inl (E.2.1 1, 1200, .inl s_tape)), (q_read_saw, .inl (E.2.1 0, 6, .inl s_read_saw))]) (fun x4 => []) [0] [1, 2, 3] hf (fun x4 hx => wX7_flaw E q_this s_thrown s_trouble s_where s_taped s_size x1.1 x1.2.1 x1.2.2.1 x1.2.2.2.1 x1.2.2.2.2.1 x1.2.2.2.2.2.1 x1.2.2.2.2.2.2 s_acts s_images s_ways s_victims s_backs s_ordered s_hitNow s_hitsNow s_plainHit s_plainBack s_fitsNow s_someNow s_everyNow s_askLeft s_drawn (v_cache) (.ref q_read) (.ref q_tape) (v_v0) (v_x) (v_past) (v_kept) (v_order) (v_plainLine) (v_plainDirty) (v_otherIn) 2 x4  hx) zy_X7_flaw zw_1132 (by unfold zRm; decide) rfl rfl (fun _ => rfl) (N := 4) (by decide) (fun _ => ⟨rfl, rfl, rfl⟩) rfl rfl rfl (Nat.le_of_ble_eq_true rfl) dX7_readSaw_45 rfl rfl (fun _ => rfl) (fun x4 hf => ?_)
      refine j_goto (tgt := 80) hC dX7_readSaw_48 (by decide) ?_
      exact B80  x1.1 x4.1 x1.2.2.1 x1.2.2.2.1 x4.2.1 x4.2.2 x1.2.2.2.2.2.2 s_read_saws s_read_hit s_read_saw hf
  · refine j_aload_n (q := 22) hC dX7_readSaw_21 rfl rfl 0 rfl ?_
    refine j_iconst (q := 23) (v := 1) hC dX7_readSaw_22 rfl (by decide) ?_
    refine j_callV (q := 26) hC [.int 1] [] (fun x5 : Int32 × Int32 × Int32 => none) (fun x5 => [(q_this, .inr (6, [.int s_thrown, .int s_trouble, .int s_where, v_cache, .ref q_read, .ref q_tape, .int s_taped, .int s_size, .int x1.1, .int x5.1, .int x1.2.2.1, .int x1.2.2.2.1, .int x5.2.1, .int x5.2.2, .long x1.2.2.2.2.2.2, v_v0, v_x, v_past, v_kept, .int s_acts, .int s_images, .int s_ways, .int s_victims, .int s_backs, v_order, .int s_ordered, .int s_hitNow, .int s_hitsNow, v_plainLine, v_plainDirty, .int s_plainHit, .int s_plainBack, .int s_fitsNow, .int s_someNow, .int s_everyNow, v_otherIn, .int s_askLeft, .int s_drawn]))]) (fun x5 => [(q_this, .inr (6, [.int s_thrown, .int s_trouble, .int s_where, v_cache, .ref q_read, .ref q_tape, .int s_taped, .int s_size, .int x1.1, .int x5.1, .int x1.2.2.1, .int x1.2.2.2.1, .int x5.2.1, .int x5.2.2, .long x1.2.2.2.2.2.2, v_v0, v_x, v_past, v_kept, .int s_acts, .int s_images, .int s_ways, .int s_victims, .int s_backs, v_order, .int s_ordered, .int s_hitNow, .int s_hitsNow, v_plainLine, v_plainDirty, .int s_plainHit, .int s_plainBack, .int s_fitsNow, .int s_someNow, .int s_everyNow, v_otherIn, .int s_askLeft, .int s_drawn])), (q_read, .inr (5, [.int s_read_sets, .int s_read_ways, .int s_read_lines, .int s_read_told, .int s_read_steps, .int s_read_unsures, .int s_read_saws, .int s_read_hit, .int s_read_weighed, v_read_memory, v_read_line, v_read_at, v_read_put, v_read_unsure, v_read_may, .ref q_read_saw])), (q_tape, .inl (E.2.1 1, 1200, .inl s_tape)), (q_read_saw, .inl (E.2.1 0, 6, .inl s_read_saw))]) (fun x5 => []) [0] [1, 2, 3] hf (fun x5 hx => wX7_flaw E q_this s_thrown s_trouble s_where s_taped s_size x1.1 x1.2.1 x1.2.2.1 x1.2.2.2.1 x1.2.2.2.2.1 x1.2.2.2.2.2.1 x1.2.2.2.2.2.2 s_acts s_images s_ways s_victims s_backs s_ordered s_hitNow s_hitsNow s_plainHit s_plainBack s_fitsNow s_someNow s_everyNow s_askLeft s_drawn (v_cache) (.ref q_read) (.ref q_tape) (v_v0) (v_x) (v_past) (v_kept) (v_order) (v_plainLine) (v_plainDirty) (v_otherIn) 1 x5  hx) zy_X7_flaw zw_1132 (by unfold zRm; decide) rfl rfl (fun _ => rfl) (N := 4) (by decide) (fun _ => ⟨rfl, rfl, rfl⟩) rfl rfl rfl (Nat.le_of_ble_eq_true rfl) dX7_readSaw_23 rfl rfl (fun _ => rfl) (fun x5 hf => ?_)
    refine j_goto (tgt := 80) hC dX7_readSaw_26 (by decide) ?_
    exact B80  x1.1 x5.1 x1.2.2.1 x1.2.2.2.1 x5.2.1 x5.2.2 x1.2.2.2.2.2.2 s_read_saws s_read_hit s_read_saw hf
noncomputable def fX7_in (a0 : Int32) (a1 : Int32) (a2 : Int32) : Option (Int32) :=
  if a0 < a1 then (some 0)
    else (if a2 < a0 then (some 0)
    else (some 1))
set_option maxHeartbeats 4000000 in
set_option maxRecDepth 100000 in
theorem wX7_in (E : zE) (a0 : Int32) (a1 : Int32) (a2 : Int32) (x : Int32) (hf : fX7_in a0 a1 a2 = some x) (l : Launch) (sz : Nat) : zM l yX7_in cX7_in 3 (some .boolean) { frames := 0, cells := 0, slots := 0, locals := 0 } E [.int a0, .int a1, .int a2] [] sz (some (.int x)) [] := by
  refine zEnter (by decide) (Nat.le_of_ble_eq_true rfl) ?_
  intro C hC hR
  change zC C E cX7_in "PackedCacheModel" 3 _ at hC
  unfold fX7_in at hf
  refine j_sub (lv' := [(0, .int a0), (1, .int a1), (2, .int a2)]) [0, 1, 2] rfl ?_
  refine j_iload_n (q := 1) hC dX7_in_0 rfl rfl 0 rfl ?_
  refine j_iload_n (q := 2) hC dX7_in_1 rfl rfl 1 rfl ?_
  refine j_icmp_lt (tgt := 14) (q := 5) hC dX7_in_2 (by decide) rfl hf (fun _ hf => ?_) (fun _ hf => ?_)
  · refine j_iconst (q := 15) (v := 0) hC dX7_in_14 rfl (by decide) ?_
    have hx := Option.some.inj hf
    exact j_zret hC hR rfl dX7_in_15 (by rw [← hx]) rfl
  · refine j_iload_n (q := 6) hC dX7_in_5 rfl rfl 0 rfl ?_
    refine j_iload_n (q := 7) hC dX7_in_6 rfl rfl 2 rfl ?_
    refine j_icmp_gt (tgt := 14) (q := 10) hC dX7_in_7 (by decide) rfl hf (fun _ hf => ?_) (fun _ hf => ?_)
    · refine j_iconst (q := 15) (v := 0) hC dX7_in_14 rfl (by decide) ?_
      have hx := Option.some.inj hf
      exact j_zret hC hR rfl dX7_in_15 (by rw [← hx]) rfl
    · refine j_iconst (q := 11) (v := 1) hC dX7_in_10 rfl (by decide) ?_
      refine j_goto (tgt := 15) hC dX7_in_11 (by decide) ?_
      have hx := Option.some.inj hf
      exact j_zret hC hR rfl dX7_in_15 (by rw [← hx]) rfl
noncomputable def fX7_wholeAt_33 (s_place : Int32) (s_number : Int32)  (b1 : Int32) (s_sort : Int32) (s_fault : Int32) (s_wrongAt : Int32) : Option (Int32 × Int32 × Int32 × Int32) :=
  if s_sort = 5 then (some (b1, s_sort, s_fault, s_wrongAt))
    else (some (s_number, s_sort, s_fault, s_wrongAt))
noncomputable def fX7_wholeAt (s_sort : Int32) (s_place : Int32) (s_number : Int32) (s_fault : Int32) (s_wrongAt : Int32) (a1 : Int32) (a2 : Int32) : Option (Int32 × Int32 × Int32 × Int32) :=
  if s_sort = 3 then ((fX7_in s_number a1 a2).bind fun x1 =>
    if x1 = 0 then ((fX7_flaw s_sort s_place s_fault s_wrongAt 4).bind fun x2 =>
    fX7_wholeAt_33 s_place s_number  a1 x2.1 x2.2.1 x2.2.2)
    else (fX7_wholeAt_33 s_place s_number  a1 s_sort s_fault s_wrongAt))
    else ((fX7_flaw s_sort s_place s_fault s_wrongAt 1).bind fun x3 =>
    fX7_wholeAt_33 s_place s_number  a1 x3.1 x3.2.1 x3.2.2)
set_option maxHeartbeats 4000000 in
set_option maxRecDepth 100000 in
theorem wX7_wholeAt (E : zE) (q_this : Nat) (s_thrown : Int32) (s_trouble : Int32) (s_where : Int32) (s_taped : Int32) (s_size : Int32) (s_spot : Int32) (s_sort : Int32) (s_place : Int32) (s_number : Int32) (s_fault : Int32) (s_wrongAt : Int32) (s_letters : Int64) (s_acts : Int32) (s_images : Int32) (s_ways : Int32) (s_victims : Int32) (s_backs : Int32) (s_ordered : Int32) (s_hitNow : Int32) (s_hitsNow : Int32) (s_plainHit : Int32) (s_plainBack : Int32) (s_fitsNow : Int32) (s_someNow : Int32) (s_everyNow : Int32) (s_askLeft : Int32) (s_drawn : Int32) (v_cache : Value) (v_read : Value) (v_tape : Value) (v_v0 : Value) (v_x : Value) (v_past : Value) (v_kept : Value) (v_order : Value) (v_plainLine : Value) (v_plainDirty : Value) (v_otherIn : Value) (a1 : Int32) (a2 : Int32) (x : Int32 × Int32 × Int32 × Int32) (hf : fX7_wholeAt s_sort s_place s_number s_fault s_wrongAt a1 a2 = some x) (l : Launch) (sz : Nat) : zM l yX7_wholeAt cX7_wholeAt 3 (some .int) { frames := 1, cells := 0, slots := 0, locals := 22 } E [.ref q_this, .int a1, .int a2] [(q_this, .inr (6, [.int s_thrown, .int s_trouble, .int s_where, v_cache, v_read, v_tape, .int s_taped, .int s_size, .int s_spot, .int s_sort, .int s_place, .int s_number, .int s_fault, .int s_wrongAt, .long s_letters, v_v0, v_x, v_past, v_kept, .int s_acts, .int s_images, .int s_ways, .int s_victims, .int s_backs, v_order, .int s_ordered, .int s_hitNow, .int s_hitsNow, v_plainLine, v_plainDirty, .int s_plainHit, .int s_plainBack, .int s_fitsNow, .int s_someNow, .int s_everyNow, v_otherIn, .int s_askLeft, .int s_drawn]))] sz (some (.int x.1)) [(q_this, .inr (6, [.int s_thrown, .int s_trouble, .int s_where, v_cache, v_read, v_tape, .int s_taped, .int s_size, .int s_spot, .int x.2.1, .int s_place, .int s_number, .int x.2.2.1, .int x.2.2.2, .long s_letters, v_v0, v_x, v_past, v_kept, .int s_acts, .int s_images, .int s_ways, .int s_victims, .int s_backs, v_order, .int s_ordered, .int s_hitNow, .int s_hitsNow, v_plainLine, v_plainDirty, .int s_plainHit, .int s_plainBack, .int s_fitsNow, .int s_someNow, .int s_everyNow, v_otherIn, .int s_askLeft, .int s_drawn]))] := by
  refine zEnter (by decide) (Nat.le_of_ble_eq_true rfl) ?_
  intro C hC hR
  change zC C E cX7_wholeAt "PackedCacheModel" 3 _ at hC
  have B33 : ∀ (b1 : Int32) (s_sort : Int32) (s_fault : Int32) (s_wrongAt : Int32), fX7_wholeAt_33 s_place s_number  b1 s_sort s_fault s_wrongAt = some x → J C 0 0 [(q_this, .inr (6, [.int s_thrown, .int s_trouble, .int s_where, v_cache, v_read, v_tape, .int s_taped, .int s_size, .int s_spot, .int s_sort, .int s_place, .int s_number, .int s_fault, .int s_wrongAt, .long s_letters, v_v0, v_x, v_past, v_kept, .int s_acts, .int s_images, .int s_ways, .int s_victims, .int s_backs, v_order, .int s_ordered, .int s_hitNow, .int s_hitsNow, v_plainLine, v_plainDirty, .int s_plainHit, .int s_plainBack, .int s_fitsNow, .int s_someNow, .int s_everyNow, v_otherIn, .int s_askLeft, .int s_drawn]))] [(0, .ref q_this), (1, .int b1)] 33 [] := by
    intro  b1 s_sort s_fault s_wrongAt hf
    unfold fX7_wholeAt_33 at hf
    refine j_aload_n (q := 34) hC dX7_wholeAt_33 rfl rfl 0 rfl ?_
    refine j_get (q := 37) hC zcl_X7 0 9 zw_910 ⟨rfl, rfl, by decide⟩ rfl rfl dX7_wholeAt_34 rfl ?_
    refine j_iconst (q := 38) (v := 5) hC dX7_wholeAt_37 rfl (by decide) ?_
    refine j_icmp_ne (tgt := 45) (q := 41) hC dX7_wholeAt_38 (by decide) rfl hf (fun _ hf => ?_) (fun _ hf => ?_)
    · refine j_aload_n (q := 46) hC dX7_wholeAt_45 rfl rfl 0 rfl ?_
      refine j_get (q := 49) hC zcl_X7 0 11 zw_912 ⟨rfl, rfl, by decide⟩ rfl rfl dX7_wholeAt_46 rfl ?_
      have hx := Option.some.inj hf
      exact j_iret hC hR dX7_wholeAt_49 (by rw [← hx]) (by rw [← hx])
    · refine j_iload_n (q := 42) hC dX7_wholeAt_41 rfl rfl 1 rfl ?_
      refine j_goto (tgt := 49) hC dX7_wholeAt_42 (by decide) ?_
      have hx := Option.some.inj hf
      exact j_iret hC hR dX7_wholeAt_49 (by rw [← hx]) (by rw [← hx])
  unfold fX7_wholeAt at hf
  refine j_sub (lv' := [(0, .ref q_this), (1, .int a1), (2, .int a2)]) [0, 1, 2] rfl ?_
  refine j_aload_n (q := 1) hC dX7_wholeAt_0 rfl rfl 0 rfl ?_
  refine j_get (q := 4) hC zcl_X7 0 9 zw_910 ⟨rfl, rfl, by decide⟩ rfl rfl dX7_wholeAt_1 rfl ?_
  refine j_iconst (q := 5) (v := 3) hC dX7_wholeAt_4 rfl (by decide) ?_
  refine j_icmp_eq (tgt := 16) (q := 8) hC dX7_wholeAt_5 (by decide) rfl hf (fun _ hf => ?_) (fun _ hf => ?_)
  · refine j_aload_n (q := 17) hC dX7_wholeAt_16 rfl rfl 0 rfl ?_
    refine j_get (q := 20) hC zcl_X7 0 11 zw_912 ⟨rfl, rfl, by decide⟩ rfl rfl dX7_wholeAt_17 rfl ?_
    refine j_iload_n (q := 21) hC dX7_wholeAt_20 rfl rfl 1 rfl ?_
    refine j_iload_n (q := 22) hC dX7_wholeAt_21 rfl rfl 2 rfl ?_
    refine j_callS (q := 25) hC [.int s_number, .int a1, .int a2] [] (fun x1 : Int32 => some (.int x1)) (fun x1 => []) (fun x1 => [(q_this, .inr (6, [.int s_thrown, .int s_trouble, .int s_where, v_cache, v_read, v_tape, .int s_taped, .int s_size, .int s_spot, .int s_sort, .int s_place, .int s_number, .int s_fault, .int s_wrongAt, .long s_letters, v_v0, v_x, v_past, v_kept, .int s_acts, .int s_images, .int s_ways, .int s_victims, .int s_backs, v_order, .int s_ordered, .int s_hitNow, .int s_hitsNow, v_plainLine, v_plainDirty, .int s_plainHit, .int s_plainBack, .int s_fitsNow, .int s_someNow, .int s_everyNow, v_otherIn, .int s_askLeft, .int s_drawn]))]) (fun x1 => [.int x1]) [] [0] hf (fun x1 hx => wX7_in E s_number a1 a2 x1  hx) zy_X7_in zw_1153 (by unfold zRm; decide) rfl rfl (fun _ => rfl) (N := 1) (by decide) (fun _ => ⟨rfl, rfl, rfl⟩) rfl (Nat.le_of_ble_eq_true rfl) dX7_wholeAt_22 rfl rfl (fun _ => rfl) (fun x1 hf => ?_)
    refine j_if_ne (tgt := 33) (q := 28) hC dX7_wholeAt_25 (by decide) rfl hf (fun _ hf => ?_) (fun _ hf => ?_)
    · refine j_sub (lv' := [(0, .ref q_this), (1, .int a1)]) [0, 1] rfl ?_
      exact B33  a1 s_sort s_fault s_wrongAt hf
    · refine j_aload_n (q := 29) hC dX7_wholeAt_28 rfl rfl 0 rfl ?_
      refine j_iconst (q := 30) (v := 4) hC dX7_wholeAt_29 rfl (by decide) ?_
      refine j_callV (q := 33) hC [.int 4] [] (fun x2 : Int32 × Int32 × Int32 => none) (fun x2 => [(q_this, .inr (6, [.int s_thrown, .int s_trouble, .int s_where, v_cache, v_read, v_tape, .int s_taped, .int s_size, .int s_spot, .int x2.1, .int s_place, .int s_number, .int x2.2.1, .int x2.2.2, .long s_letters, v_v0, v_x, v_past, v_kept, .int s_acts, .int s_images, .int s_ways, .int s_victims, .int s_backs, v_order, .int s_ordered, .int s_hitNow, .int s_hitsNow, v_plainLine, v_plainDirty, .int s_plainHit, .int s_plainBack, .int s_fitsNow, .int s_someNow, .int s_everyNow, v_otherIn, .int s_askLeft, .int s_drawn]))]) (fun x2 => [(q_this, .inr (6, [.int s_thrown, .int s_trouble, .int s_where, v_cache, v_read, v_tape, .int s_taped, .int s_size, .int s_spot, .int x2.1, .int s_place, .int s_number, .int x2.2.1, .int x2.2.2, .long s_letters, v_v0, v_x, v_past, v_kept, .int s_acts, .int s_images, .int s_ways, .int s_victims, .int s_backs, v_order, .int s_ordered, .int s_hitNow, .int s_hitsNow, v_plainLine, v_plainDirty, .int s_plainHit, .int s_plainBack, .int s_fitsNow, .int s_someNow, .int s_everyNow, v_otherIn, .int s_askLeft, .int s_drawn]))]) (fun x2 => []) [0] [] hf (fun x2 hx => wX7_flaw E q_this s_thrown s_trouble s_where s_taped s_size s_spot s_sort s_place s_number s_fault s_wrongAt s_letters s_acts s_images s_ways s_victims s_backs s_ordered s_hitNow s_hitsNow s_plainHit s_plainBack s_fitsNow s_someNow s_everyNow s_askLeft s_drawn (v_cache) (v_read) (v_tape) (v_v0) (v_x) (v_past) (v_kept) (v_order) (v_plainLine) (v_plainDirty) (v_otherIn) 4 x2  hx) zy_X7_flaw zw_1132 (by unfold zRm; decide) rfl rfl (fun _ => rfl) (N := 1) (by decide) (fun _ => ⟨rfl, rfl, rfl⟩) rfl rfl rfl (Nat.le_of_ble_eq_true rfl) dX7_wholeAt_30 rfl rfl (fun _ => rfl) (fun x2 hf => ?_)
      refine j_sub (lv' := [(0, .ref q_this), (1, .int a1)]) [0, 1] rfl ?_
      exact B33  a1 x2.1 x2.2.1 x2.2.2 hf
  · refine j_aload_n (q := 9) hC dX7_wholeAt_8 rfl rfl 0 rfl ?_
    refine j_iconst (q := 10) (v := 1) hC dX7_wholeAt_9 rfl (by decide) ?_
    refine j_callV (q := 13) hC [.int 1] [] (fun x3 : Int32 × Int32 × Int32 => none) (fun x3 => [(q_this, .inr (6, [.int s_thrown, .int s_trouble, .int s_where, v_cache, v_read, v_tape, .int s_taped, .int s_size, .int s_spot, .int x3.1, .int s_place, .int s_number, .int x3.2.1, .int x3.2.2, .long s_letters, v_v0, v_x, v_past, v_kept, .int s_acts, .int s_images, .int s_ways, .int s_victims, .int s_backs, v_order, .int s_ordered, .int s_hitNow, .int s_hitsNow, v_plainLine, v_plainDirty, .int s_plainHit, .int s_plainBack, .int s_fitsNow, .int s_someNow, .int s_everyNow, v_otherIn, .int s_askLeft, .int s_drawn]))]) (fun x3 => [(q_this, .inr (6, [.int s_thrown, .int s_trouble, .int s_where, v_cache, v_read, v_tape, .int s_taped, .int s_size, .int s_spot, .int x3.1, .int s_place, .int s_number, .int x3.2.1, .int x3.2.2, .long s_letters, v_v0, v_x, v_past, v_kept, .int s_acts, .int s_images, .int s_ways, .int s_victims, .int s_backs, v_order, .int s_ordered, .int s_hitNow, .int s_hitsNow, v_plainLine, v_plainDirty, .int s_plainHit, .int s_plainBack, .int s_fitsNow, .int s_someNow, .int s_everyNow, v_otherIn, .int s_askLeft, .int s_drawn]))]) (fun x3 => []) [0] [] hf (fun x3 hx => wX7_flaw E q_this s_thrown s_trouble s_where s_taped s_size s_spot s_sort s_place s_number s_fault s_wrongAt s_letters s_acts s_images s_ways s_victims s_backs s_ordered s_hitNow s_hitsNow s_plainHit s_plainBack s_fitsNow s_someNow s_everyNow s_askLeft s_drawn (v_cache) (v_read) (v_tape) (v_v0) (v_x) (v_past) (v_kept) (v_order) (v_plainLine) (v_plainDirty) (v_otherIn) 1 x3  hx) zy_X7_flaw zw_1132 (by unfold zRm; decide) rfl rfl (fun _ => rfl) (N := 1) (by decide) (fun _ => ⟨rfl, rfl, rfl⟩) rfl rfl rfl (Nat.le_of_ble_eq_true rfl) dX7_wholeAt_10 rfl rfl (fun _ => rfl) (fun x3 hf => ?_)
    refine j_goto (tgt := 33) hC dX7_wholeAt_13 (by decide) ?_
    refine j_sub (lv' := [(0, .ref q_this), (1, .int a1)]) [0, 1] rfl ?_
    exact B33  a1 x3.1 x3.2.1 x3.2.2 hf
