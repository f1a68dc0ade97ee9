noncomputable def fX7_denied (s_trouble : Int32) (s_where : Int32) (a1 : Int32) : Option (Int32 × Int32 × Int32) :=
  (fX7_refused s_trouble s_where a1).bind fun x1 =>
    some (0, x1.2.1, x1.2.2)
set_option maxHeartbeats 4000000 in
set_option maxRecDepth 100000 in
theorem wX7_denied (E : zE) (q_this : Nat) (s_thrown : Int32) (s_trouble : Int32) (s_where : Int32) (s_taped : Int32) (s_size : Int32) (s_spot : Int32) (s_sort : Int32) (s_place : Int32) (s_number : Int32) (s_fault : Int32) (s_wrongAt : Int32) (s_letters : Int64) (s_acts : Int32) (s_images : Int32) (s_ways : Int32) (s_victims : Int32) (s_backs : Int32) (s_ordered : Int32) (s_hitNow : Int32) (s_hitsNow : Int32) (s_plainHit : Int32) (s_plainBack : Int32) (s_fitsNow : Int32) (s_someNow : Int32) (s_everyNow : Int32) (s_askLeft : Int32) (s_drawn : Int32) (v_cache : Value) (v_read : Value) (v_tape : Value) (v_v0 : Value) (v_x : Value) (v_past : Value) (v_kept : Value) (v_order : Value) (v_plainLine : Value) (v_plainDirty : Value) (v_otherIn : Value) (a1 : Int32) (x : Int32 × Int32 × Int32) (hf : fX7_denied s_trouble s_where a1 = some x) (l : Launch) (sz : Nat) : zM l yX7_denied cX7_denied 2 (some .boolean) { frames := 1, cells := 0, slots := 0, locals := 21 } E [.ref q_this, .int a1] [(q_this, .inr (6, [.int s_thrown, .int s_trouble, .int s_where, v_cache, v_read, v_tape, .int s_taped, .int s_size, .int s_spot, .int s_sort, .int s_place, .int s_number, .int s_fault, .int s_wrongAt, .long s_letters, v_v0, v_x, v_past, v_kept, .int s_acts, .int s_images, .int s_ways, .int s_victims, .int s_backs, v_order, .int s_ordered, .int s_hitNow, .int s_hitsNow, v_plainLine, v_plainDirty, .int s_plainHit, .int s_plainBack, .int s_fitsNow, .int s_someNow, .int s_everyNow, v_otherIn, .int s_askLeft, .int s_drawn]))] sz (some (.int x.1)) [(q_this, .inr (6, [.int s_thrown, .int x.2.1, .int x.2.2, v_cache, v_read, v_tape, .int s_taped, .int s_size, .int s_spot, .int s_sort, .int s_place, .int s_number, .int s_fault, .int s_wrongAt, .long s_letters, v_v0, v_x, v_past, v_kept, .int s_acts, .int s_images, .int s_ways, .int s_victims, .int s_backs, v_order, .int s_ordered, .int s_hitNow, .int s_hitsNow, v_plainLine, v_plainDirty, .int s_plainHit, .int s_plainBack, .int s_fitsNow, .int s_someNow, .int s_everyNow, v_otherIn, .int s_askLeft, .int s_drawn]))] := by
  refine zEnter (by decide) (Nat.le_of_ble_eq_true rfl) ?_
  intro C hC hR
  change zC C E cX7_denied "PackedCacheModel" 2 _ at hC
  unfold fX7_denied at hf
  refine j_sub (lv' := [(0, .ref q_this), (1, .int a1)]) [0, 1] rfl ?_
  refine j_aload_n (q := 1) hC dX7_denied_0 rfl rfl 0 rfl ?_
  refine j_iload_n (q := 2) hC dX7_denied_1 rfl rfl 1 rfl ?_
  refine j_callV (q := 5) hC [.int a1] [] (fun x1 : Int32 × Int32 × Int32 => some (.int x1.1)) (fun x1 => [(q_this, .inr (6, [.int s_thrown, .int x1.2.1, .int x1.2.2, v_cache, v_read, v_tape, .int s_taped, .int s_size, .int s_spot, .int s_sort, .int s_place, .int s_number, .int s_fault, .int s_wrongAt, .long s_letters, v_v0, v_x, v_past, v_kept, .int s_acts, .int s_images, .int s_ways, .int s_victims, .int s_backs, v_order, .int s_ordered, .int s_hitNow, .int s_hitsNow, v_plainLine, v_plainDirty, .int s_plainHit, .int s_plainBack, .int s_fitsNow, .int s_someNow, .int s_everyNow, v_otherIn, .int s_askLeft, .int s_drawn]))]) (fun x1 => [(q_this, .inr (6, [.int s_thrown, .int x1.2.1, .int x1.2.2, v_cache, v_read, v_tape, .int s_taped, .int s_size, .int s_spot, .int s_sort, .int s_place, .int s_number, .int s_fault, .int s_wrongAt, .long s_letters, v_v0, v_x, v_past, v_kept, .int s_acts, .int s_images, .int s_ways, .int s_victims, .int s_backs, v_order, .int s_ordered, .int s_hitNow, .int s_hitsNow, v_plainLine, v_plainDirty, .int s_plainHit, .int s_plainBack, .int s_fitsNow, .int s_someNow, .int s_everyNow, v_otherIn, .int s_askLeft, .int s_drawn]))]) (fun x1 => [.int x1.1]) [0] [] hf (fun x1 hx => wX7_refused E q_this s_thrown s_trouble s_where s_taped s_size s_spot s_sort s_place s_number s_fault s_wrongAt s_letters s_acts s_images s_ways s_victims s_backs s_ordered s_hitNow s_hitsNow s_plainHit s_plainBack s_fitsNow s_someNow s_everyNow s_askLeft s_drawn (v_cache) (v_read) (v_tape) (v_v0) (v_x) (v_past) (v_kept) (v_order) (v_plainLine) (v_plainDirty) (v_otherIn) a1 x1  hx) zy_X7_refused zw_1029 (by unfold zRm; decide) rfl rfl (fun _ => rfl) (N := 1) (by decide) (fun _ => ⟨rfl, rfl, rfl⟩) rfl rfl rfl (Nat.le_of_ble_eq_true rfl) dX7_denied_2 rfl rfl (fun _ => rfl) (fun x1 hf => ?_)
  refine j_pop (q := 6) hC dX7_denied_5 rfl rfl ?_
  refine j_iconst (q := 7) (v := 0) hC dX7_denied_6 rfl (by decide) ?_
  have hx := Option.some.inj hf
  exact j_zret hC hR rfl dX7_denied_7 (by rw [← hx]) (by rw [← hx])
noncomputable def fX7_granted (s_trouble : Int32) (s_where : Int32) : Option (Int32 × Int32 × Int32) :=
  (fX7_good s_trouble s_where 0).bind fun x1 =>
    some (1, x1.2.1, x1.2.2)
set_option maxHeartbeats 4000000 in
set_option maxRecDepth 100000 in
theorem wX7_granted (E : zE) (q_this : Nat) (s_thrown : Int32) (s_trouble : Int32) (s_where : Int32) (s_taped : Int32) (s_size : Int32) (s_spot : Int32) (s_sort : Int32) (s_place : Int32) (s_number : Int32) (s_fault : Int32) (s_wrongAt : Int32) (s_letters : Int64) (s_acts : Int32) (s_images : Int32) (s_ways : Int32) (s_victims : Int32) (s_backs : Int32) (s_ordered : Int32) (s_hitNow : Int32) (s_hitsNow : Int32) (s_plainHit : Int32) (s_plainBack : Int32) (s_fitsNow : Int32) (s_someNow : Int32) (s_everyNow : Int32) (s_askLeft : Int32) (s_drawn : Int32) (v_cache : Value) (v_read : Value) (v_tape : Value) (v_v0 : Value) (v_x : Value) (v_past : Value) (v_kept : Value) (v_order : Value) (v_plainLine : Value) (v_plainDirty : Value) (v_otherIn : Value) (x : Int32 × Int32 × Int32) (hf : fX7_granted s_trouble s_where = some x) (l : Launch) (sz : Nat) : zM l yX7_granted cX7_granted 1 (some .boolean) { frames := 1, cells := 0, slots := 0, locals := 21 } E [.ref q_this] [(q_this, .inr (6, [.int s_thrown, .int s_trouble, .int s_where, v_cache, v_read, v_tape, .int s_taped, .int s_size, .int s_spot, .int s_sort, .int s_place, .int s_number, .int s_fault, .int s_wrongAt, .long s_letters, v_v0, v_x, v_past, v_kept, .int s_acts, .int s_images, .int s_ways, .int s_victims, .int s_backs, v_order, .int s_ordered, .int s_hitNow, .int s_hitsNow, v_plainLine, v_plainDirty, .int s_plainHit, .int s_plainBack, .int s_fitsNow, .int s_someNow, .int s_everyNow, v_otherIn, .int s_askLeft, .int s_drawn]))] sz (some (.int x.1)) [(q_this, .inr (6, [.int s_thrown, .int x.2.1, .int x.2.2, v_cache, v_read, v_tape, .int s_taped, .int s_size, .int s_spot, .int s_sort, .int s_place, .int s_number, .int s_fault, .int s_wrongAt, .long s_letters, v_v0, v_x, v_past, v_kept, .int s_acts, .int s_images, .int s_ways, .int s_victims, .int s_backs, v_order, .int s_ordered, .int s_hitNow, .int s_hitsNow, v_plainLine, v_plainDirty, .int s_plainHit, .int s_plainBack, .int s_fitsNow, .int s_someNow, .int s_everyNow, v_otherIn, .int s_askLeft, .int s_drawn]))] := by
  refine zEnter (by decide) (Nat.le_of_ble_eq_true rfl) ?_
  intro C hC hR
  change zC C E cX7_granted "PackedCacheModel" 1 _ at hC
  unfold fX7_granted at hf
  refine j_sub (lv' := [(0, .ref q_this)]) [0] rfl ?_
  refine j_aload_n (q := 1) hC dX7_granted_0 rfl rfl 0 rfl ?_
  refine j_iconst (q := 2) (v := 0) hC dX7_granted_1 rfl (by decide) ?_
  refine j_callV (q := 5) hC [.int 0] [] (fun x1 : Int32 × Int32 × Int32 => some (.int x1.1)) (fun x1 => [(q_this, .inr (6, [.int s_thrown, .int x1.2.1, .int x1.2.2, v_cache, v_read, v_tape, .int s_taped, .int s_size, .int s_spot, .int s_sort, .int s_place, .int s_number, .int s_fault, .int s_wrongAt, .long s_letters, v_v0, v_x, v_past, v_kept, .int s_acts, .int s_images, .int s_ways, .int s_victims, .int s_backs, v_order, .int s_ordered, .int s_hitNow, .int s_hitsNow, v_plainLine, v_plainDirty, .int s_plainHit, .int s_plainBack, .int s_fitsNow, .int s_someNow, .int s_everyNow, v_otherIn, .int s_askLeft, .int s_drawn]))]) (fun x1 => [(q_this, .inr (6, [.int s_thrown, .int x1.2.1, .int x1.2.2, v_cache, v_read, v_tape, .int s_taped, .int s_size, .int s_spot, .int s_sort, .int s_place, .int s_number, .int s_fault, .int s_wrongAt, .long s_letters, v_v0, v_x, v_past, v_kept, .int s_acts, .int s_images, .int s_ways, .int s_victims, .int s_backs, v_order, .int s_ordered, .int s_hitNow, .int s_hitsNow, v_plainLine, v_plainDirty, .int s_plainHit, .int s_plainBack, .int s_fitsNow, .int s_someNow, .int s_everyNow, v_otherIn, .int s_askLeft, .int s_drawn]))]) (fun x1 => [.int x1.1]) [0] [] hf (fun x1 hx => wX7_good E q_this s_thrown s_trouble s_where s_taped s_size s_spot s_sort s_place s_number s_fault s_wrongAt s_letters s_acts s_images s_ways s_victims s_backs s_ordered s_hitNow s_hitsNow s_plainHit s_plainBack s_fitsNow s_someNow s_everyNow s_askLeft s_drawn (v_cache) (v_read) (v_tape) (v_v0) (v_x) (v_past) (v_kept) (v_order) (v_plainLine) (v_plainDirty) (v_otherIn) 0 x1  hx) zy_X7_good zw_1209 (by unfold zRm; decide) rfl rfl (fun _ => rfl) (N := 1) (by decide) (fun _ => ⟨rfl, rfl, rfl⟩) rfl rfl rfl (Nat.le_of_ble_eq_true rfl) dX7_granted_2 rfl rfl (fun _ => rfl) (fun x1 hf => ?_)
  refine j_pop (q := 6) hC dX7_granted_5 rfl rfl ?_
  refine j_iconst (q := 7) (v := 1) hC dX7_granted_6 rfl (by decide) ?_
  have hx := Option.some.inj hf
  exact j_zret hC hR rfl dX7_granted_7 (by rw [← hx]) (by rw [← hx])
noncomputable def fX7_common_6   : Nat → Int64 → Int64 → Option (Int64)
  | 0, _, _ => none
  | m + 1, b4, b6 =>
    zlet (lg_cmp b6 0 : Int32) fun x1 =>
    if x1 = 0 then (some b4)
    else (zreml b4 b6 fun x2 =>
    fX7_common_6   m b6 x2)
noncomputable def fX7_common (a0 : Int64) (a2 : Int64) : Option (Int64) :=
  fX7_common_6   zF a0 a2
set_option maxHeartbeats 4000000 in
set_option maxRecDepth 100000 in
theorem wX7_common (E : zE) (a0 : Int64) (a2 : Int64) (x : Int64) (hf : fX7_common a0 a2 = some x) (l : Launch) (sz : Nat) : zM l yX7_common cX7_common 10 (some .long) { frames := 0, cells := 0, slots := 0, locals := 0 } E [.long a0, .long a2] [] sz (some (.long x)) [] := by
  refine zEnter (by decide) (Nat.le_of_ble_eq_true rfl) ?_
  intro C hC hR
  change zC C E cX7_common "PackedCacheModel" 10 _ at hC
  have B6 : ∀ (N : Nat), ∀ (b4 : Int64) (b6 : Int64), fX7_common_6   N b4 b6 = some x → J C 0 0 [] [(4, .long b4), (6, .long b6)] 6 [] := by
    intro  N
    induction N with
    | zero =>
      intro b4 b6 hf
      rw [fX7_common_6] at hf
      cases hf
    | succ m ih =>
      intro b4 b6 hf
      rw [fX7_common_6] at hf
      refine j_lload (q := 8) hC dX7_common_6 rfl 1 rfl ?_
      refine j_lconst (q := 9) (v := 0) hC dX7_common_8 rfl (by decide) ?_
      refine j_lcmp (q := 10) hC dX7_common_9 rfl hf (fun x1 hf => ?_)
      refine j_if_eq (tgt := 31) (q := 13) hC dX7_common_10 (by decide) rfl hf (fun _ hf => ?_) (fun _ hf => ?_)
      · refine j_lload (q := 33) hC dX7_common_31 rfl 0 rfl ?_
        have hx := Option.some.inj hf
        exact j_lret hC hR dX7_common_33 (by rw [← hx]) rfl
      · refine j_lload (q := 15) hC dX7_common_13 rfl 0 rfl ?_
        refine j_lload (q := 17) hC dX7_common_15 rfl 1 rfl ?_
        refine j_lrem (q := 18) hC dX7_common_17 rfl hf (fun x2 hf => ?_)
        refine j_lstore (q := 20) (lv' := [(8, .long x2), (4, .long b4), (6, .long b6)]) hC dX7_common_18 rfl (by decide) rfl ?_
        refine j_lload (q := 22) hC dX7_common_20 rfl 2 rfl ?_
        refine j_lstore (q := 24) (lv' := [(4, .long b6), (8, .long x2), (6, .long b6)]) hC dX7_common_22 rfl (by decide) rfl ?_
        refine j_lload (q := 26) hC dX7_common_24 rfl 1 rfl ?_
        refine j_lstore (q := 28) (lv' := [(6, .long x2), (4, .long b6), (8, .long x2)]) hC dX7_common_26 rfl (by decide) rfl ?_
        refine j_goto (tgt := 6) hC dX7_common_28 (by decide) ?_
        refine j_sub (lv' := [(4, .long b6), (6, .long x2)]) [1, 0] rfl ?_
        exact ih b6 x2 hf
  unfold fX7_common at hf
  refine j_sub (lv' := [(0, .long a0), (2, .long a2)]) [0, 1] rfl ?_
  refine j_lload_n (q := 1) hC dX7_common_0 rfl rfl 0 rfl ?_
  refine j_lstore (q := 3) (lv' := [(4, .long a0), (0, .long a0), (2, .long a2)]) hC dX7_common_1 rfl (by decide) rfl ?_
  refine j_lload_n (q := 4) hC dX7_common_3 rfl rfl 2 rfl ?_
  refine j_lstore (q := 6) (lv' := [(6, .long a2), (4, .long a0), (0, .long a0), (2, .long a2)]) hC dX7_common_4 rfl (by decide) rfl ?_
  refine j_sub (lv' := [(4, .long a0), (6, .long a2)]) [1, 0] rfl ?_
  exact B6  zF a0 a2 hf
noncomputable def fX7_fraction_16   (b1 : Int64) (b3 : Int64) (t0 : Int64) (s_trouble : Int32) (s_where : Int32) : Option (Int64 × Int32 × Int32) :=
  (fX7_common b1 b3).bind fun x1 =>
    zdivl t0 x1 fun x2 =>
    some (x2, s_trouble, s_where)
noncomputable def fX7_fraction (s_trouble : Int32) (s_where : Int32) (a1 : Int64) (a3 : Int64) (a5 : Int32) : Option (Int64 × Int32 × Int32) :=
  (fX7_good s_trouble s_where 0).bind fun x1 =>
    if a5 = 0 then (fX7_fraction_16   a1 a3 a1 x1.2.1 x1.2.2)
    else (fX7_fraction_16   a1 a3 a3 x1.2.1 x1.2.2)
set_option maxHeartbeats 4000000 in
set_option maxRecDepth 100000 in
theorem wX7_fraction (E : zE) (q_this : Nat) (s_thrown : Int32) (s_trouble : Int32) (s_where : Int32) (s_taped : Int32) (s_size : Int32) (s_spot : Int32) (s_sort : Int32) (s_place : Int32) (s_number : Int32) (s_fault : Int32) (s_wrongAt : Int32) (s_letters : Int64) (s_acts : Int32) (s_images : Int32) (s_ways : Int32) (s_victims : Int32) (s_backs : Int32) (s_ordered : Int32) (s_hitNow : Int32) (s_hitsNow : Int32) (s_plainHit : Int32) (s_plainBack : Int32) (s_fitsNow : Int32) (s_someNow : Int32) (s_everyNow : Int32) (s_askLeft : Int32) (s_drawn : Int32) (v_cache : Value) (v_read : Value) (v_tape : Value) (v_v0 : Value) (v_x : Value) (v_past : Value) (v_kept : Value) (v_order : Value) (v_plainLine : Value) (v_plainDirty : Value) (v_otherIn : Value) (a1 : Int64) (a3 : Int64) (a5 : Int32) (x : Int64 × Int32 × Int32) (hf : fX7_fraction s_trouble s_where a1 a3 a5 = some x) (l : Launch) (sz : Nat) : zM l yX7_fraction cX7_fraction 6 (some .long) { frames := 1, cells := 0, slots := 0, locals := 29 } E [.ref q_this, .long a1, .long a3, .int a5] [(q_this, .inr (6, [.int s_thrown, .int s_trouble, .int s_where, v_cache, v_read, v_tape, .int s_taped, .int s_size, .int s_spot, .int s_sort, .int s_place, .int s_number, .int s_fault, .int s_wrongAt, .long s_letters, v_v0, v_x, v_past, v_kept, .int s_acts, .int s_images, .int s_ways, .int s_victims, .int s_backs, v_order, .int s_ordered, .int s_hitNow, .int s_hitsNow, v_plainLine, v_plainDirty, .int s_plainHit, .int s_plainBack, .int s_fitsNow, .int s_someNow, .int s_everyNow, v_otherIn, .int s_askLeft, .int s_drawn]))] sz (some (.long x.1)) [(q_this, .inr (6, [.int s_thrown, .int x.2.1, .int x.2.2, v_cache, v_read, v_tape, .int s_taped, .int s_size, .int s_spot, .int s_sort, .int s_place, .int s_number, .int s_fault, .int s_wrongAt, .long s_letters, v_v0, v_x, v_past, v_kept, .int s_acts, .int s_images, .int s_ways, .int s_victims, .int s_backs, v_order, .int s_ordered, .int s_hitNow, .int s_hitsNow, v_plainLine, v_plainDirty, .int s_plainHit, .int s_plainBack, .int s_fitsNow, .int s_someNow, .int s_everyNow, v_otherIn, .int s_askLeft, .int s_drawn]))] := by
  refine zEnter (by decide) (Nat.le_of_ble_eq_true rfl) ?_
  intro C hC hR
  change zC C E cX7_fraction "PackedCacheModel" 6 _ at hC
  have B16 : ∀ (b1 : Int64) (b3 : Int64) (t0 : Int64) (s_trouble : Int32) (s_where : Int32), fX7_fraction_16   b1 b3 t0 s_trouble s_where = some x → J C 0 0 [(q_this, .inr (6, [.int s_thrown, .int s_trouble, .int s_where, v_cache, v_read, v_tape, .int s_taped, .int s_size, .int s_spot, .int s_sort, .int s_place, .int s_number, .int s_fault, .int s_wrongAt, .long s_letters, v_v0, v_x, v_past, v_kept, .int s_acts, .int s_images, .int s_ways, .int s_victims, .int s_backs, v_order, .int s_ordered, .int s_hitNow, .int s_hitsNow, v_plainLine, v_plainDirty, .int s_plainHit, .int s_plainBack, .int s_fitsNow, .int s_someNow, .int s_everyNow, v_otherIn, .int s_askLeft, .int s_drawn]))] [(1, .long b1), (3, .long b3)] 16 [.long t0] := by
    intro  b1 b3 t0 s_trouble s_where hf
    unfold fX7_fraction_16 at hf
    refine j_lload_n (q := 17) hC dX7_fraction_16 rfl rfl 0 rfl ?_
    refine j_lload_n (q := 18) hC dX7_fraction_17 rfl rfl 1 rfl ?_
    refine j_callS (q := 21) hC [.long b1, .long b3] [.long t0] (fun x1 : Int64 => some (.long x1)) (fun x1 => []) (fun x1 => [(q_this, .inr (6, [.int s_thrown, .int s_trouble, .int s_where, v_cache, v_read, v_tape, .int s_taped, .int s_size, .int s_spot, .int s_sort, .int s_place, .int s_number, .int s_fault, .int s_wrongAt, .long s_letters, v_v0, v_x, v_past, v_kept, .int s_acts, .int s_images, .int s_ways, .int s_victims, .int s_backs, v_order, .int s_ordered, .int s_hitNow, .int s_hitsNow, v_plainLine, v_plainDirty, .int s_plainHit, .int s_plainBack, .int s_fitsNow, .int s_someNow, .int s_everyNow, v_otherIn, .int s_askLeft, .int s_drawn]))]) (fun x1 => [.long x1, .long t0]) [] [0] hf (fun x1 hx => wX7_common E b1 b3 x1  hx) zy_X7_common zw_1436 (by unfold zRm; decide) rfl rfl (fun _ => rfl) (N := 1) (by decide) (fun _ => ⟨rfl, rfl, rfl⟩) rfl (Nat.le_of_ble_eq_true rfl) dX7_fraction_18 rfl rfl (fun _ => rfl) (fun x1 hf => ?_)
    refine j_ldiv (q := 22) hC dX7_fraction_21 rfl hf (fun x2 hf => ?_)
    have hx := Option.some.inj hf
    exact j_lret hC hR dX7_fraction_22 (by rw [← hx]) (by rw [← hx])
  unfold fX7_fraction at hf
  refine j_sub (lv' := [(0, .ref q_this), (1, .long a1), (3, .long a3), (5, .int a5)]) [0, 1, 2, 3] rfl ?_
  refine j_aload_n (q := 1) hC dX7_fraction_0 rfl rfl 0 rfl ?_
  refine j_iconst (q := 2) (v := 0) hC dX7_fraction_1 rfl (by decide) ?_
  refine j_callV (q := 5) hC [.int 0] [] (fun x1 : Int32 × Int32 × Int32 => some (.int x1.1)) (fun x1 => [(q_this, .inr (6, [.int s_thrown, .int x1.2.1, .int x1.2.2, v_cache, v_read, v_tape, .int s_taped, .int s_size, .int s_spot, .int s_sort, .int s_place, .int s_number, .int s_fault, .int s_wrongAt, .long s_letters, v_v0, v_x, v_past, v_kept, .int s_acts, .int s_images, .int s_ways, .int s_victims, .int s_backs, v_order, .int s_ordered, .int s_hitNow, .int s_hitsNow, v_plainLine, v_plainDirty, .int s_plainHit, .int s_plainBack, .int s_fitsNow, .int s_someNow, .int s_everyNow, v_otherIn, .int s_askLeft, .int s_drawn]))]) (fun x1 => [(q_this, .inr (6, [.int s_thrown, .int x1.2.1, .int x1.2.2, v_cache, v_read, v_tape, .int s_taped, .int s_size, .int s_spot, .int s_sort, .int s_place, .int s_number, .int s_fault, .int s_wrongAt, .long s_letters, v_v0, v_x, v_past, v_kept, .int s_acts, .int s_images, .int s_ways, .int s_victims, .int s_backs, v_order, .int s_ordered, .int s_hitNow, .int s_hitsNow, v_plainLine, v_plainDirty, .int s_plainHit, .int s_plainBack, .int s_fitsNow, .int s_someNow, .int s_everyNow, v_otherIn, .int s_askLeft, .int s_drawn]))]) (fun x1 => [.int x1.1]) [0] [] hf (fun x1 hx => wX7_good E q_this s_thrown s_trouble s_where s_taped s_size s_spot s_sort s_place s_number s_fault s_wrongAt s_letters s_acts s_images s_ways s_victims s_backs s_ordered s_hitNow s_hitsNow s_plainHit s_plainBack s_fitsNow s_someNow s_everyNow s_askLeft s_drawn (v_cache) (v_read) (v_tape) (v_v0) (v_x) (v_past) (v_kept) (v_order) (v_plainLine) (v_plainDirty) (v_otherIn) 0 x1  hx) zy_X7_good zw_1209 (by unfold zRm; decide) rfl rfl (fun _ => rfl) (N := 1) (by decide) (fun _ => ⟨rfl, rfl, rfl⟩) rfl rfl rfl (Nat.le_of_ble_eq_true rfl) dX7_fraction_2 rfl rfl (fun _ => rfl) (fun x1 hf => ?_)
  refine j_pop (q := 6) hC dX7_fraction_5 rfl rfl ?_
  refine j_iload (q := 8) hC dX7_fraction_6 rfl 3 rfl ?_
  refine j_if_eq (tgt := 15) (q := 11) hC dX7_fraction_8 (by decide) rfl hf (fun _ hf => ?_) (fun _ hf => ?_)
  · refine j_lload_n (q := 16) hC dX7_fraction_15 rfl rfl 1 rfl ?_
    refine j_sub (lv' := [(1, .long a1), (3, .long a3)]) [1, 2] rfl ?_
    exact B16  a1 a3 a1 x1.2.1 x1.2.2 hf
  · refine j_lload_n (q := 12) hC dX7_fraction_11 rfl rfl 2 rfl ?_
    refine j_goto (tgt := 16) hC dX7_fraction_12 (by decide) ?_
    refine j_sub (lv' := [(1, .long a1), (3, .long a3)]) [1, 2] rfl ?_
    exact B16  a1 a3 a3 x1.2.1 x1.2.2 hf
noncomputable def fX7_isCachedNow (s_x : (Nat → Int32)) (a1 : Int32) : Option (Int32) :=
  zlet (512 + a1 : Int32) fun x1 =>
    zald s_x 609 x1 fun x2 =>
    if x2 ≤ 0 then (some 0)
    else (some 1)
set_option maxHeartbeats 4000000 in
set_option maxRecDepth 100000 in
theorem wX7_isCachedNow (E : zE) (q_this : Nat) (q_x : Nat) (s_thrown : Int32) (s_trouble : Int32) (s_where : Int32) (s_taped : Int32) (s_size : Int32) (s_spot : Int32) (s_sort : Int32) (s_place : Int32) (s_number : Int32) (s_fault : Int32) (s_wrongAt : Int32) (s_letters : Int64) (s_acts : Int32) (s_images : Int32) (s_ways : Int32) (s_victims : Int32) (s_backs : Int32) (s_ordered : Int32) (s_hitNow : Int32) (s_hitsNow : Int32) (s_plainHit : Int32) (s_plainBack : Int32) (s_fitsNow : Int32) (s_someNow : Int32) (s_everyNow : Int32) (s_askLeft : Int32) (s_drawn : Int32) (s_x : (Nat → Int32)) (v_cache : Value) (v_read : Value) (v_tape : Value) (v_v0 : Value) (v_past : Value) (v_kept : Value) (v_order : Value) (v_plainLine : Value) (v_plainDirty : Value) (v_otherIn : Value) (a1 : Int32) (x : Int32) (hf : fX7_isCachedNow s_x a1 = some x) (l : Launch) (sz : Nat) : zM l yX7_isCachedNow cX7_isCachedNow 2 (some .boolean) { frames := 0, cells := 0, slots := 0, locals := 0 } E [.ref q_this, .int a1] [(q_this, .inr (6, [.int s_thrown, .int s_trouble, .int s_where, v_cache, v_read, v_tape, .int s_taped, .int s_size, .int s_spot, .int s_sort, .int s_place, .int s_number, .int s_fault, .int s_wrongAt, .long s_letters, v_v0, .ref q_x, v_past, v_kept, .int s_acts, .int s_images, .int s_ways, .int s_victims, .int s_backs, v_order, .int s_ordered, .int s_hitNow, .int s_hitsNow, v_plainLine, v_plainDirty, .int s_plainHit, .int s_plainBack, .int s_fitsNow, .int s_someNow, .int s_everyNow, v_otherIn, .int s_askLeft, .int s_drawn])), (q_x, .inl (E.2.1 0, 609, .inl s_x))] sz (some (.int x)) [(q_this, .inr (6, [.int s_thrown, .int s_trouble, .int s_where, v_cache, v_read, v_tape, .int s_taped, .int s_size, .int s_spot, .int s_sort, .int s_place, .int s_number, .int s_fault, .int s_wrongAt, .long s_letters, v_v0, .ref q_x, v_past, v_kept, .int s_acts, .int s_images, .int s_ways, .int s_victims, .int s_backs, v_order, .int s_ordered, .int s_hitNow, .int s_hitsNow, v_plainLine, v_plainDirty, .int s_plainHit, .int s_plainBack, .int s_fitsNow, .int s_someNow, .int s_everyNow, v_otherIn, .int s_askLeft, .int s_drawn])), (q_x, .inl (E.2.1 0, 609, .inl s_x))] := by
  refine zEnter (by decide) (Nat.le_of_ble_eq_true rfl) ?_
  intro C hC hR
  change zC C E cX7_isCachedNow "PackedCacheModel" 2 _ at hC
  unfold fX7_isCachedNow at hf
  refine j_sub (lv' := [(0, .ref q_this), (1, .int a1)]) [0, 1] rfl ?_
  refine j_aload_n (q := 1) hC dX7_isCachedNow_0 rfl rfl 0 rfl ?_
  refine j_get (q := 4) hC zcl_X7 0 16 zw_917 ⟨rfl, rfl, by decide⟩ rfl rfl dX7_isCachedNow_1 rfl ?_
  refine j_sipush (q := 7) (v := 512) hC dX7_isCachedNow_4 rfl (by decide) ?_
  refine j_iload_n (q := 8) hC dX7_isCachedNow_7 rfl rfl 1 rfl ?_
  refine j_iadd (q := 9) hC dX7_isCachedNow_8 rfl hf (fun x1 hf => ?_)
  refine j_iald (q := 10) hC 1 rfl dX7_isCachedNow_9 rfl hf (fun x2 hf => ?_)
  refine j_if_le (tgt := 17) (q := 13) hC dX7_isCachedNow_10 (by decide) rfl hf (fun _ hf => ?_) (fun _ hf => ?_)
  · refine j_iconst (q := 18) (v := 0) hC dX7_isCachedNow_17 rfl (by decide) ?_
    have hx := Option.some.inj hf
    exact j_zret hC hR rfl dX7_isCachedNow_18 (by rw [← hx]) rfl
  · refine j_iconst (q := 14) (v := 1) hC dX7_isCachedNow_13 rfl (by decide) ?_
    refine j_goto (tgt := 18) hC dX7_isCachedNow_14 (by decide) ?_
    have hx := Option.some.inj hf
    exact j_zret hC hR rfl dX7_isCachedNow_18 (by rw [← hx]) rfl
noncomputable def fX7_wordOf_19 (s_x : (Nat → Int32))  (b1 : Int32) (b2 : Int32) (t0 : Int32) : Option (Int32) :=
  zlet (8 * b1 : Int32) fun x1 =>
    zlet (t0 + x1 : Int32) fun x2 =>
    zlet (x2 + b2 : Int32) fun x3 =>
    zald s_x 609 x3 fun x4 =>
    some x4
noncomputable def fX7_wordOf (s_x : (Nat → Int32)) (a1 : Int32) (a2 : Int32) : Option (Int32) :=
  (fX7_isCachedNow s_x a1).bind fun x1 =>
    if x1 = 0 then (fX7_wordOf_19 s_x  a1 a2 0)
    else (fX7_wordOf_19 s_x  a1 a2 256)
set_option maxHeartbeats 4000000 in
set_option maxRecDepth 100000 in
theorem wX7_wordOf (E : zE) (q_this : Nat) (q_x : Nat) (s_thrown : Int32) (s_trouble : Int32) (s_where : Int32) (s_taped : Int32) (s_size : Int32) (s_spot : Int32) (s_sort : Int32) (s_place : Int32) (s_number : Int32) (s_fault : Int32) (s_wrongAt : Int32) (s_letters : Int64) (s_acts : Int32) (s_images : Int32) (s_ways : Int32) (s_victims : Int32) (s_backs : Int32) (s_ordered : Int32) (s_hitNow : Int32) (s_hitsNow : Int32) (s_plainHit : Int32) (s_plainBack : Int32) (s_fitsNow : Int32) (s_someNow : Int32) (s_everyNow : Int32) (s_askLeft : Int32) (s_drawn : Int32) (s_x : (Nat → Int32)) (v_cache : Value) (v_read : Value) (v_tape : Value) (v_v0 : Value) (v_past : Value) (v_kept : Value) (v_order : Value) (v_plainLine : Value) (v_plainDirty : Value) (v_otherIn : Value) (a1 : Int32) (a2 : Int32) (x : Int32) (hf : fX7_wordOf s_x a1 a2 = some x) (l : Launch) (sz : Nat) : zM l yX7_wordOf cX7_wordOf 3 (some .int) { frames := 1, cells := 0, slots := 0, locals := 21 } E [.ref q_this, .int a1, .int a2] [(q_this, .inr (6, [.int s_thrown, .int s_trouble, .int s_where, v_cache, v_read, v_tape, .int s_taped, .int s_size, .int s_spot, .int s_sort, .int s_place, .int s_number, .int s_fault, .int s_wrongAt, .long s_letters, v_v0, .ref q_x, v_past, v_kept, .int s_acts, .int s_images, .int s_ways, .int s_victims, .int s_backs, v_order, .int s_ordered, .int s_hitNow, .int s_hitsNow, v_plainLine, v_plainDirty, .int s_plainHit, .int s_plainBack, .int s_fitsNow, .int s_someNow, .int s_everyNow, v_otherIn, .int s_askLeft, .int s_drawn])), (q_x, .inl (E.2.1 0, 609, .inl s_x))] sz (some (.int x)) [(q_this, .inr (6, [.int s_thrown, .int s_trouble, .int s_where, v_cache, v_read, v_tape, .int s_taped, .int s_size, .int s_spot, .int s_sort, .int s_place, .int s_number, .int s_fault, .int s_wrongAt, .long s_letters, v_v0, .ref q_x, v_past, v_kept, .int s_acts, .int s_images, .int s_ways, .int s_victims, .int s_backs, v_order, .int s_ordered, .int s_hitNow, .int s_hitsNow, v_plainLine, v_plainDirty, .int s_plainHit, .int s_plainBack, .int s_fitsNow, .int s_someNow, .int s_everyNow, v_otherIn, .int s_askLeft, .int s_drawn])), (q_x, .inl (E.2.1 0, 609, .inl s_x))] := by
  refine zEnter (by decide) (Nat.le_of_ble_eq_true rfl) ?_
  intro C hC hR
  change zC C E cX7_wordOf "PackedCacheModel" 3 _ at hC
  have B19 : ∀ (b1 : Int32) (b2 : Int32) (t0 : Int32), fX7_wordOf_19 s_x  b1 b2 t0 = some x → J C 0 0 [(q_this, .inr (6, [.int s_thrown, .int s_trouble, .int s_where, v_cache, v_read, v_tape, .int s_taped, .int s_size, .int s_spot, .int s_sort, .int s_place, .int s_number, .int s_fault, .int s_wrongAt, .long s_letters, v_v0, .ref q_x, v_past, v_kept, .int s_acts, .int s_images, .int s_ways, .int s_victims, .int s_backs, v_order, .int s_ordered, .int s_hitNow, .int s_hitsNow, v_plainLine, v_plainDirty, .int s_plainHit, .int s_plainBack, .int s_fitsNow, .int s_someNow, .int s_everyNow, v_otherIn, .int s_askLeft, .int s_drawn])), (q_x, .inl (E.2.1 0, 609, .inl s_x))] [(1, .int b1), (2, .int b2)] 19 [.int t0, .ref q_x] := by
    intro  b1 b2 t0 hf
    unfold fX7_wordOf_19 at hf
    refine j_bipush (q := 21) (v := 8) hC dX7_wordOf_19 rfl (by decide) ?_
    refine j_iload_n (q := 22) hC dX7_wordOf_21 rfl rfl 0 rfl ?_
    refine j_imul (q := 23) hC dX7_wordOf_22 rfl hf (fun x1 hf => ?_)
    refine j_iadd (q := 24) hC dX7_wordOf_23 rfl hf (fun x2 hf => ?_)
    refine j_iload_n (q := 25) hC dX7_wordOf_24 rfl rfl 1 rfl ?_
    refine j_iadd (q := 26) hC dX7_wordOf_25 rfl hf (fun x3 hf => ?_)
    refine j_iald (q := 27) hC 1 rfl dX7_wordOf_26 rfl hf (fun x4 hf => ?_)
    have hx := Option.some.inj hf
    exact j_iret hC hR dX7_wordOf_27 (by rw [← hx]) rfl
  unfold fX7_wordOf at hf
  refine j_sub (lv' := [(0, .ref q_this), (1, .int a1), (2, .int a2)]) [0, 1, 2] rfl ?_
  refine j_aload_n (q := 1) hC dX7_wordOf_0 rfl rfl 0 rfl ?_
  refine j_get (q := 4) hC zcl_X7 0 16 zw_917 ⟨rfl, rfl, by decide⟩ rfl rfl dX7_wordOf_1 rfl ?_
  refine j_aload_n (q := 5) hC dX7_wordOf_4 rfl rfl 0 rfl ?_
  refine j_iload_n (q := 6) hC dX7_wordOf_5 rfl rfl 1 rfl ?_
  refine j_callV (q := 9) hC [.int a1] [.ref q_x] (fun x1 : Int32 => some (.int x1)) (fun x1 => [(q_this, .inr (6, [.int s_thrown, .int s_trouble, .int s_where, v_cache, v_read, v_tape, .int s_taped, .int s_size, .int s_spot, .int s_sort, .int s_place, .int s_number, .int s_fault, .int s_wrongAt, .long s_letters, v_v0, .ref q_x, v_past, v_kept, .int s_acts, .int s_images, .int s_ways, .int s_victims, .int s_backs, v_order, .int s_ordered, .int s_hitNow, .int s_hitsNow, v_plainLine, v_plainDirty, .int s_plainHit, .int s_plainBack, .int s_fitsNow, .int s_someNow, .int s_everyNow, v_otherIn, .int s_askLeft, .int s_drawn])), (q_x, .inl (E.2.1 0, 609, .inl s_x))]) (fun x1 => [(q_this, .inr (6, [.int s_thrown, .int s_trouble, .int s_where, v_cache, v_read, v_tape, .int s_taped, .int s_size, .int s_spot, .int s_sort, .int s_place, .int s_number, .int s_fault, .int s_wrongAt, .long s_letters, v_v0, .ref q_x, v_past, v_kept, .int s_acts, .int s_images, .int s_ways, .int s_victims, .int s_backs, v_order, .int s_ordered, .int s_hitNow, .int s_hitsNow, v_plainLine, v_plainDirty, .int s_plainHit, .int s_plainBack, .int s_fitsNow, .int s_someNow, .int s_everyNow, v_otherIn, .int s_askLeft, .int s_drawn])), (q_x, .inl (E.2.1 0, 609, .inl s_x))]) (fun x1 => [.int x1, .ref q_x]) [0, 1] [] hf (fun x1 hx => wX7_isCachedNow E q_this q_x s_thrown s_trouble s_where s_taped s_size s_spot s_sort s_place s_number s_fault s_wrongAt s_letters s_acts s_images s_ways s_victims s_backs s_ordered s_hitNow s_hitsNow s_plainHit s_plainBack s_fitsNow s_someNow s_everyNow s_askLeft s_drawn s_x (v_cache) (v_read) (v_tape) (v_v0) (v_past) (v_kept) (v_order) (v_plainLine) (v_plainDirty) (v_otherIn) a1 x1  hx) zy_X7_isCachedNow zw_1241 (by unfold zRm; decide) rfl rfl (fun _ => rfl) (N := 2) (by decide) (fun _ => ⟨rfl, rfl, rfl⟩) rfl rfl rfl (Nat.le_of_ble_eq_true rfl) dX7_wordOf_6 rfl rfl (fun _ => rfl) (fun x1 hf => ?_)
  refine j_if_eq (tgt := 18) (q := 12) hC dX7_wordOf_9 (by decide) rfl hf (fun _ hf => ?_) (fun _ hf => ?_)
  · refine j_iconst (q := 19) (v := 0) hC dX7_wordOf_18 rfl (by decide) ?_
    refine j_sub (lv' := [(1, .int a1), (2, .int a2)]) [1, 2] rfl ?_
    exact B19  a1 a2 0 hf
  · refine j_sipush (q := 15) (v := 256) hC dX7_wordOf_12 rfl (by decide) ?_
    refine j_goto (tgt := 19) hC dX7_wordOf_15 (by decide) ?_
    refine j_sub (lv' := [(1, .int a1), (2, .int a2)]) [1, 2] rfl ?_
    exact B19  a1 a2 256 hf
noncomputable def fX7_bytesOf (a0 : Int32) : Option (Int32) :=
  if a0 = 0 then (some 1)
    else (if a0 = 1 then (some 2)
    else (if a0 = 2 then (some 9)
    else (if a0 = 3 then (some 11)
    else (if a0 = 4 then (some 11)
    else (if a0 = 5 then (some 13)
    else (if a0 = 6 then (some 13)
    else (some 16)))))))
set_option maxHeartbeats 4000000 in
set_option maxRecDepth 100000 in
theorem wX7_bytesOf (E : zE) (a0 : Int32) (x : Int32) (hf : fX7_bytesOf a0 = some x) (l : Launch) (sz : Nat) : zM l yX7_bytesOf cX7_bytesOf 1 (some .int) { frames := 0, cells := 0, slots := 0, locals := 0 } E [.int a0] [] sz (some (.int x)) [] := by
  refine zEnter (by decide) (Nat.le_of_ble_eq_true rfl) ?_
  intro C hC hR
  change zC C E cX7_bytesOf "PackedCacheModel" 1 _ at hC
  unfold fX7_bytesOf at hf
  refine j_sub (lv' := [(0, .int a0)]) [0] rfl ?_
  refine j_iload_n (q := 1) hC dX7_bytesOf_0 rfl rfl 0 rfl ?_
  by_cases c1_0 : a0 = 0
  · have hf := (zite_s hf).1 c1_0
    refine j_table (tgt := 44) hC dX7_bytesOf_1 (by rw [c1_0]; decide) (by rw [c1_0]; decide) (by rw [c1_0]; rfl) (by decide) ?_
    refine j_iconst (q := 45) (v := 1) hC dX7_bytesOf_44 rfl (by decide) ?_
    have hx := Option.some.inj hf
    exact j_iret hC hR dX7_bytesOf_45 (by rw [← hx]) rfl
  · have hf := (zite_s hf).2 c1_0
    by_cases c1_1 : a0 = 1
    · have hf := (zite_s hf).1 c1_1
      refine j_table (tgt := 46) hC dX7_bytesOf_1 (by rw [c1_1]; decide) (by rw [c1_1]; decide) (by rw [c1_1]; rfl) (by decide) ?_
      refine j_iconst (q := 47) (v := 2) hC dX7_bytesOf_46 rfl (by decide) ?_
      have hx := Option.some.inj hf
      exact j_iret hC hR dX7_bytesOf_47 (by rw [← hx]) rfl
    · have hf := (zite_s hf).2 c1_1
      by_cases c1_2 : a0 = 2
      · have hf := (zite_s hf).1 c1_2
        refine j_table (tgt := 48) hC dX7_bytesOf_1 (by rw [c1_2]; decide) (by rw [c1_2]; decide) (by rw [c1_2]; rfl) (by decide) ?_
        refine j_bipush (q := 50) (v := 9) hC dX7_bytesOf_48 rfl (by decide) ?_
        have hx := Option.some.inj hf
        exact j_iret hC hR dX7_bytesOf_50 (by rw [← hx]) rfl
      · have hf := (zite_s hf).2 c1_2
        by_cases c1_3 : a0 = 3
        · have hf := (zite_s hf).1 c1_3
          refine j_table (tgt := 51) hC dX7_bytesOf_1 (by rw [c1_3]; decide) (by rw [c1_3]; decide) (by rw [c1_3]; rfl) (by decide) ?_
          refine j_bipush (q := 53) (v := 11) hC dX7_bytesOf_51 rfl (by decide) ?_
          have hx := Option.some.inj hf
          exact j_iret hC hR dX7_bytesOf_53 (by rw [← hx]) rfl
        · have hf := (zite_s hf).2 c1_3
          by_cases c1_4 : a0 = 4
          · have hf := (zite_s hf).1 c1_4
            refine j_table (tgt := 51) hC dX7_bytesOf_1 (by rw [c1_4]; decide) (by rw [c1_4]; decide) (by rw [c1_4]; rfl) (by decide) ?_
            refine j_bipush (q := 53) (v := 11) hC dX7_bytesOf_51 rfl (by decide) ?_
            have hx := Option.some.inj hf
            exact j_iret hC hR dX7_bytesOf_53 (by rw [← hx]) rfl
          · have hf := (zite_s hf).2 c1_4
            by_cases c1_5 : a0 = 5
            · have hf := (zite_s hf).1 c1_5
              refine j_table (tgt := 54) hC dX7_bytesOf_1 (by rw [c1_5]; decide) (by rw [c1_5]; decide) (by rw [c1_5]; rfl) (by decide) ?_
              refine j_bipush (q := 56) (v := 13) hC dX7_bytesOf_54 rfl (by decide) ?_
              have hx := Option.some.inj hf
              exact j_iret hC hR dX7_bytesOf_56 (by rw [← hx]) rfl
            · have hf := (zite_s hf).2 c1_5
              by_cases c1_6 : a0 = 6
              · have hf := (zite_s hf).1 c1_6
                refine j_table (tgt := 54) hC dX7_bytesOf_1 (by rw [c1_6]; decide) (by rw [c1_6]; decide) (by rw [c1_6]; rfl) (by decide) ?_
                refine j_bipush (q := 56) (v := 13) hC dX7_bytesOf_54 rfl (by decide) ?_
                have hx := Option.some.inj hf
                exact j_iret hC hR dX7_bytesOf_56 (by rw [← hx]) rfl
              · have hf := (zite_s hf).2 c1_6
                have hc1_0 := lv_neT c1_0 (a := 0) (by decide)
                have hc1_1 := lv_neT c1_1 (a := 1) (by decide)
                have hc1_2 := lv_neT c1_2 (a := 2) (by decide)
                have hc1_3 := lv_neT c1_3 (a := 3) (by decide)
                have hc1_4 := lv_neT c1_4 (a := 4) (by decide)
                have hc1_5 := lv_neT c1_5 (a := 5) (by decide)
                have hc1_6 := lv_neT c1_6 (a := 6) (by decide)
                refine j_tableOut (tgt := 57) hC dX7_bytesOf_1 (by omega) (by decide) ?_
                refine j_bipush (q := 59) (v := 16) hC dX7_bytesOf_57 rfl (by decide) ?_
                have hx := Option.some.inj hf
                exact j_iret hC hR dX7_bytesOf_59 (by rw [← hx]) rfl
noncomputable def fX7_widthOf (a0 : Int32) : Option (Int32) :=
  if a0 = 2 then (some 4)
    else (if a0 = 3 then (some 2)
    else (if a0 = 4 then (some 8)
    else (if a0 = 5 then (some 4)
    else (some 8))))
set_option maxHeartbeats 4000000 in
set_option maxRecDepth 100000 in
theorem wX7_widthOf (E : zE) (a0 : Int32) (x : Int32) (hf : fX7_widthOf a0 = some x) (l : Launch) (sz : Nat) : zM l yX7_widthOf cX7_widthOf 1 (some .int) { frames := 0, cells := 0, slots := 0, locals := 0 } E [.int a0] [] sz (some (.int x)) [] := by
  refine zEnter (by decide) (Nat.le_of_ble_eq_true rfl) ?_
  intro C hC hR
  change zC C E cX7_widthOf "PackedCacheModel" 1 _ at hC
  unfold fX7_widthOf at hf
  refine j_sub (lv' := [(0, .int a0)]) [0] rfl ?_
  refine j_iload_n (q := 1) hC dX7_widthOf_0 rfl rfl 0 rfl ?_
  by_cases c1_0 : a0 = 2
  · have hf := (zite_s hf).1 c1_0
    refine j_table (tgt := 34) hC dX7_widthOf_1 (by rw [c1_0]; decide) (by rw [c1_0]; decide) (by rw [c1_0]; rfl) (by decide) ?_
    refine j_iconst (q := 35) (v := 4) hC dX7_widthOf_34 rfl (by decide) ?_
    have hx := Option.some.inj hf
    exact j_iret hC hR dX7_widthOf_35 (by rw [← hx]) rfl
  · have hf := (zite_s hf).2 c1_0
    by_cases c1_1 : a0 = 3
    · have hf := (zite_s hf).1 c1_1
      refine j_table (tgt := 32) hC dX7_widthOf_1 (by rw [c1_1]; decide) (by rw [c1_1]; decide) (by rw [c1_1]; rfl) (by decide) ?_
      refine j_iconst (q := 33) (v := 2) hC dX7_widthOf_32 rfl (by decide) ?_
      have hx := Option.some.inj hf
      exact j_iret hC hR dX7_widthOf_33 (by rw [← hx]) rfl
    · have hf := (zite_s hf).2 c1_1
      by_cases c1_2 : a0 = 4
      · have hf := (zite_s hf).1 c1_2
        refine j_table (tgt := 36) hC dX7_widthOf_1 (by rw [c1_2]; decide) (by rw [c1_2]; decide) (by rw [c1_2]; rfl) (by decide) ?_
        refine j_bipush (q := 38) (v := 8) hC dX7_widthOf_36 rfl (by decide) ?_
        have hx := Option.some.inj hf
        exact j_iret hC hR dX7_widthOf_38 (by rw [← hx]) rfl
      · have hf := (zite_s hf).2 c1_2
        by_cases c1_3 : a0 = 5
        · have hf := (zite_s hf).1 c1_3
          refine j_table (tgt := 34) hC dX7_widthOf_1 (by rw [c1_3]; decide) (by rw [c1_3]; decide) (by rw [c1_3]; rfl) (by decide) ?_
          refine j_iconst (q := 35) (v := 4) hC dX7_widthOf_34 rfl (by decide) ?_
          have hx := Option.some.inj hf
          exact j_iret hC hR dX7_widthOf_35 (by rw [← hx]) rfl
        · have hf := (zite_s hf).2 c1_3
          have hc1_0 := lv_neT c1_0 (a := 2) (by decide)
          have hc1_1 := lv_neT c1_1 (a := 3) (by decide)
          have hc1_2 := lv_neT c1_2 (a := 4) (by decide)
          have hc1_3 := lv_neT c1_3 (a := 5) (by decide)
          refine j_tableOut (tgt := 36) hC dX7_widthOf_1 (by omega) (by decide) ?_
          refine j_bipush (q := 38) (v := 8) hC dX7_widthOf_36 rfl (by decide) ?_
          have hx := Option.some.inj hf
          exact j_iret hC hR dX7_widthOf_38 (by rw [← hx]) rfl
noncomputable def fX7_lanesOf (a0 : Int32) : Option (Int32) :=
  (fX7_widthOf a0).bind fun x1 =>
    zdiv 16 x1 fun x2 =>
    some x2
set_option maxHeartbeats 4000000 in
set_option maxRecDepth 100000 in
theorem wX7_lanesOf (E : zE) (a0 : Int32) (x : Int32) (hf : fX7_lanesOf a0 = some x) (l : Launch) (sz : Nat) : zM l yX7_lanesOf cX7_lanesOf 1 (some .int) { frames := 1, cells := 0, slots := 0, locals := 20 } E [.int a0] [] sz (some (.int x)) [] := by
  refine zEnter (by decide) (Nat.le_of_ble_eq_true rfl) ?_
  intro C hC hR
  change zC C E cX7_lanesOf "PackedCacheModel" 1 _ at hC
  unfold fX7_lanesOf at hf
  refine j_sub (lv' := [(0, .int a0)]) [0] rfl ?_
  refine j_bipush (q := 2) (v := 16) hC dX7_lanesOf_0 rfl (by decide) ?_
  refine j_iload_n (q := 3) hC dX7_lanesOf_2 rfl rfl 0 rfl ?_
  refine j_callS (q := 6) hC [.int a0] [.int 16] (fun x1 : Int32 => some (.int x1)) (fun x1 => []) (fun x1 => []) (fun x1 => [.int x1, .int 16]) [] [] hf (fun x1 hx => wX7_widthOf E a0 x1  hx) zy_X7_widthOf zw_1272 (by unfold zRm; decide) rfl rfl (fun _ => rfl) (N := 0) (by decide) (fun _ => ⟨rfl, rfl, rfl⟩) rfl (Nat.le_of_ble_eq_true rfl) dX7_lanesOf_3 rfl rfl (fun _ => rfl) (fun x1 hf => ?_)
  refine j_idiv (q := 7) hC dX7_lanesOf_6 rfl hf (fun x2 hf => ?_)
  have hx := Option.some.inj hf
  exact j_iret hC hR dX7_lanesOf_7 (by rw [← hx]) rfl
noncomputable def fX7_laneOf_14 (s_x : (Nat → Int32))  : Nat → Int32 → Int32 → Int32 → Int64 → Int32 → Option (Int64)
  | 0, _, _, _, _, _ => none
  | m + 1, b1, b3, b4, b5, b7 =>
    if b4 ≤ b7 then (some b5)
    else (zlet (b5 <<< (Int32.toInt64 16 &&& 63) : Int64) fun x1 =>
    zlet (b4 * b3 : Int32) fun x2 =>
    zlet (x2 + b7 : Int32) fun x3 =>
    (fX7_wordOf s_x b1 x3).bind fun x4 =>
    zlet (Int32.toInt64 x4 : Int64) fun x5 =>
    zlet (x1 + x5 : Int64) fun x6 =>
    zlet (b7 + 1) fun x7 =>
    fX7_laneOf_14 s_x  m b1 b3 b4 x6 x7)
noncomputable def fX7_laneOf (s_x : (Nat → Int32)) (a1 : Int32) (a2 : Int32) (a3 : Int32) : Option (Int64) :=
  (fX7_widthOf a2).bind fun x1 =>
    zdiv x1 2 fun x2 =>
    fX7_laneOf_14 s_x  zF a1 a3 x2 0 0
set_option maxHeartbeats 4000000 in
set_option maxRecDepth 100000 in
theorem wX7_laneOf (E : zE) (q_this : Nat) (q_x : Nat) (s_thrown : Int32) (s_trouble : Int32) (s_where : Int32) (s_taped : Int32) (s_size : Int32) (s_spot : Int32) (s_sort : Int32) (s_place : Int32) (s_number : Int32) (s_fault : Int32) (s_wrongAt : Int32) (s_letters : Int64) (s_acts : Int32) (s_images : Int32) (s_ways : Int32) (s_victims : Int32) (s_backs : Int32) (s_ordered : Int32) (s_hitNow : Int32) (s_hitsNow : Int32) (s_plainHit : Int32) (s_plainBack : Int32) (s_fitsNow : Int32) (s_someNow : Int32) (s_everyNow : Int32) (s_askLeft : Int32) (s_drawn : Int32) (s_x : (Nat → Int32)) (v_cache : Value) (v_read : Value) (v_tape : Value) (v_v0 : Value) (v_past : Value) (v_kept : Value) (v_order : Value) (v_plainLine : Value) (v_plainDirty : Value) (v_otherIn : Value) (a1 : Int32) (a2 : Int32) (a3 : Int32) (x : Int64) (hf : fX7_laneOf s_x a1 a2 a3 = some x) (l : Launch) (sz : Nat) : zM l yX7_laneOf cX7_laneOf 8 (some .long) { frames := 2, cells := 0, slots := 0, locals := 43 } E [.ref q_this, .int a1, .int a2, .int a3] [(q_this, .inr (6, [.int s_thrown, .int s_trouble, .int s_where, v_cache, v_read, v_tape, .int s_taped, .int s_size, .int s_spot, .int s_sort, .int s_place, .int s_number, .int s_fault, .int s_wrongAt, .long s_letters, v_v0, .ref q_x, v_past, v_kept, .int s_acts, .int s_images, .int s_ways, .int s_victims, .int s_backs, v_order, .int s_ordered, .int s_hitNow, .int s_hitsNow, v_plainLine, v_plainDirty, .int s_plainHit, .int s_plainBack, .int s_fitsNow, .int s_someNow, .int s_everyNow, v_otherIn, .int s_askLeft, .int s_drawn])), (q_x, .inl (E.2.1 0, 609, .inl s_x))] sz (some (.long x)) [(q_this, .inr (6, [.int s_thrown, .int s_trouble, .int s_where, v_cache, v_read, v_tape, .int s_taped, .int s_size, .int s_spot, .int s_sort, .int s_place, .int s_number, .int s_fault, .int s_wrongAt, .long s_letters, v_v0, .ref q_x, v_past, v_kept, .int s_acts, .int s_images, .int s_ways, .int s_victims, .int s_backs, v_order, .int s_ordered, .int s_hitNow, .int s_hitsNow, v_plainLine, v_plainDirty, .int s_plainHit, .int s_plainBack, .int s_fitsNow, .int s_someNow, .int s_everyNow, v_otherIn, .int s_askLeft, .int s_drawn])), (q_x, .inl (E.2.1 0, 609, .inl s_x))] := by
  refine zEnter (by decide) (Nat.le_of_ble_eq_true rfl) ?_
  intro C hC hR
  change zC C E cX7_laneOf "PackedCacheModel" 8 _ at hC
  have B14 : ∀ (N : Nat), ∀ (b1 : Int32) (b3 : Int32) (b4 : Int32) (b5 : Int64) (b7 : Int32), fX7_laneOf_14 s_x  N b1 b3 b4 b5 b7 = some x → J C 0 0 [(q_this, .inr (6, [.int s_thrown, .int s_trouble, .int s_where, v_cache, v_read, v_tape, .int s_taped, .int s_size, .int s_spot, .int s_sort, .int s_place, .int s_number, .int s_fault, .int s_wrongAt, .long s_letters, v_v0, .ref q_x, v_past, v_kept, .int s_acts, .int s_images, .int s_ways, .int s_victims, .int s_backs, v_order, .int s_ordered, .int s_hitNow, .int s_hitsNow, v_plainLine, v_plainDirty, .int s_plainHit, .int s_plainBack, .int s_fitsNow, .int s_someNow, .int s_everyNow, v_otherIn, .int s_askLeft, .int s_drawn])), (q_x, .inl (E.2.1 0, 609, .inl s_x))] [(0, .ref q_this), (1, .int b1), (3, .int b3), (4, .int b4), (5, .long b5), (7, .int b7)] 14 [] := by
    intro  N
    induction N with
    | zero =>
      intro b1 b3 b4 b5 b7 hf
      rw [fX7_laneOf_14] at hf
      cases hf
    | succ m ih =>
      intro b1 b3 b4 b5 b7 hf
      rw [fX7_laneOf_14] at hf
      refine j_iload (q := 16) hC dX7_laneOf_14 rfl 5 rfl ?_
      refine j_iload (q := 18) hC dX7_laneOf_16 rfl 3 rfl ?_
      refine j_icmp_ge (tgt := 48) (q := 21) hC dX7_laneOf_18 (by decide) rfl hf (fun _ hf => ?_) (fun _ hf => ?_)
      · refine j_lload (q := 50) hC dX7_laneOf_48 rfl 4 rfl ?_
        have hx := Option.some.inj hf
        exact j_lret hC hR dX7_laneOf_50 (by rw [← hx]) rfl
      · refine j_lload (q := 23) hC dX7_laneOf_21 rfl 4 rfl ?_
        refine j_bipush (q := 25) (v := 16) hC dX7_laneOf_23 rfl (by decide) ?_
        refine j_lshl (q := 26) hC dX7_laneOf_25 rfl hf (fun x1 hf => ?_)
        refine j_aload_n (q := 27) hC dX7_laneOf_26 rfl rfl 0 rfl ?_
        refine j_iload_n (q := 28) hC dX7_laneOf_27 rfl rfl 1 rfl ?_
        refine j_iload (q := 30) hC dX7_laneOf_28 rfl 3 rfl ?_
        refine j_iload_n (q := 31) hC dX7_laneOf_30 rfl rfl 2 rfl ?_
        refine j_imul (q := 32) hC dX7_laneOf_31 rfl hf (fun x2 hf => ?_)
        refine j_iload (q := 34) hC dX7_laneOf_32 rfl 5 rfl ?_
        refine j_iadd (q := 35) hC dX7_laneOf_34 rfl hf (fun x3 hf => ?_)
        refine j_callV (q := 38) hC [.int b1, .int x3] [.long x1] (fun x4 : Int32 => some (.int x4)) (fun x4 => [(q_this, .inr (6, [.int s_thrown, .int s_trouble, .int s_where, v_cache, v_read, v_tape, .int s_taped, .int s_size, .int s_spot, .int s_sort, .int s_place, .int s_number, .int s_fault, .int s_wrongAt, .long s_letters, v_v0, .ref q_x, v_past, v_kept, .int s_acts, .int s_images, .int s_ways, .int s_victims, .int s_backs, v_order, .int s_ordered, .int s_hitNow, .int s_hitsNow, v_plainLine, v_plainDirty, .int s_plainHit, .int s_plainBack, .int s_fitsNow, .int s_someNow, .int s_everyNow, v_otherIn, .int s_askLeft, .int s_drawn])), (q_x, .inl (E.2.1 0, 609, .inl s_x))]) (fun x4 => [(q_this, .inr (6, [.int s_thrown, .int s_trouble, .int s_where, v_cache, v_read, v_tape, .int s_taped, .int s_size, .int s_spot, .int s_sort, .int s_place, .int s_number, .int s_fault, .int s_wrongAt, .long s_letters, v_v0, .ref q_x, v_past, v_kept, .int s_acts, .int s_images, .int s_ways, .int s_victims, .int s_backs, v_order, .int s_ordered, .int s_hitNow, .int s_hitsNow, v_plainLine, v_plainDirty, .int s_plainHit, .int s_plainBack, .int s_fitsNow, .int s_someNow, .int s_everyNow, v_otherIn, .int s_askLeft, .int s_drawn])), (q_x, .inl (E.2.1 0, 609, .inl s_x))]) (fun x4 => [.int x4, .long x1]) [0, 1] [] hf (fun x4 hx => wX7_wordOf E q_this q_x s_thrown s_trouble s_where s_taped s_size s_spot s_sort s_place s_number s_fault s_wrongAt s_letters s_acts s_images s_ways s_victims s_backs s_ordered s_hitNow s_hitsNow s_plainHit s_plainBack s_fitsNow s_someNow s_everyNow s_askLeft s_drawn s_x (v_cache) (v_read) (v_tape) (v_v0) (v_past) (v_kept) (v_order) (v_plainLine) (v_plainDirty) (v_otherIn) b1 x3 x4  hx) zy_X7_wordOf zw_1237 (by unfold zRm; decide) rfl rfl (fun _ => rfl) (N := 2) (by decide) (fun _ => ⟨rfl, rfl, rfl⟩) rfl rfl rfl (Nat.le_of_ble_eq_true rfl) dX7_laneOf_35 rfl rfl (fun _ => rfl) (fun x4 hf => ?_)
        refine j_i2l (q := 39) hC dX7_laneOf_38 rfl hf (fun x5 hf => ?_)
        refine j_ladd (q := 40) hC dX7_laneOf_39 rfl hf (fun x6 hf => ?_)
        refine j_lstore (q := 42) (lv' := [(5, .long x6), (0, .ref q_this), (1, .int b1), (3, .int b3), (4, .int b4), (7, .int b7)]) hC dX7_laneOf_40 rfl (by decide) rfl ?_
        refine j_iinc (q := 45) (v := 1) hC (fun x7 => [(7, .int x7), (5, .long x6), (0, .ref q_this), (1, .int b1), (3, .int b3), (4, .int b4)]) dX7_laneOf_42 rfl 5 rfl (by decide) (by decide) (fun _ => rfl) hf (fun x7 hf => ?_)
        refine j_goto (tgt := 14) hC dX7_laneOf_45 (by decide) ?_
        refine j_sub (lv' := [(0, .ref q_this), (1, .int b1), (3, .int b3), (4, .int b4), (5, .long x6), (7, .int x7)]) [2, 3, 4, 5, 1, 0] rfl ?_
        exact ih b1 b3 b4 x6 x7 hf
  unfold fX7_laneOf at hf
  refine j_sub (lv' := [(0, .ref q_this), (1, .int a1), (2, .int a2), (3, .int a3)]) [0, 1, 2, 3] rfl ?_
  refine j_iload_n (q := 1) hC dX7_laneOf_0 rfl rfl 2 rfl ?_
  refine j_callS (q := 4) hC [.int a2] [] (fun x1 : Int32 => some (.int x1)) (fun x1 => []) (fun x1 => [(q_this, .inr (6, [.int s_thrown, .int s_trouble, .int s_where, v_cache, v_read, v_tape, .int s_taped, .int s_size, .int s_spot, .int s_sort, .int s_place, .int s_number, .int s_fault, .int s_wrongAt, .long s_letters, v_v0, .ref q_x, v_past, v_kept, .int s_acts, .int s_images, .int s_ways, .int s_victims, .int s_backs, v_order, .int s_ordered, .int s_hitNow, .int s_hitsNow, v_plainLine, v_plainDirty, .int s_plainHit, .int s_plainBack, .int s_fitsNow, .int s_someNow, .int s_everyNow, v_otherIn, .int s_askLeft, .int s_drawn])), (q_x, .inl (E.2.1 0, 609, .inl s_x))]) (fun x1 => [.int x1]) [] [0, 1] hf (fun x1 hx => wX7_widthOf E a2 x1  hx) zy_X7_widthOf zw_1272 (by unfold zRm; decide) rfl rfl (fun _ => rfl) (N := 2) (by decide) (fun _ => ⟨rfl, rfl, rfl⟩) rfl (Nat.le_of_ble_eq_true rfl) dX7_laneOf_1 rfl rfl (fun _ => rfl) (fun x1 hf => ?_)
  refine j_iconst (q := 5) (v := 2) hC dX7_laneOf_4 rfl (by decide) ?_
  refine j_idiv (q := 6) hC dX7_laneOf_5 rfl hf (fun x2 hf => ?_)
  refine j_istore (q := 8) (lv' := [(4, .int x2), (0, .ref q_this), (1, .int a1), (2, .int a2), (3, .int a3)]) hC dX7_laneOf_6 rfl (by decide) rfl ?_
  refine j_lconst (q := 9) (v := 0) hC dX7_laneOf_8 rfl (by decide) ?_
  refine j_lstore (q := 11) (lv' := [(5, .long 0), (4, .int x2), (0, .ref q_this), (1, .int a1), (2, .int a2), (3, .int a3)]) hC dX7_laneOf_9 rfl (by decide) rfl ?_
  refine j_iconst (q := 12) (v := 0) hC dX7_laneOf_11 rfl (by decide) ?_
  refine j_istore (q := 14) (lv' := [(7, .int 0), (5, .long 0), (4, .int x2), (0, .ref q_this), (1, .int a1), (2, .int a2), (3, .int a3)]) hC dX7_laneOf_12 rfl (by decide) rfl ?_
  refine j_sub (lv' := [(0, .ref q_this), (1, .int a1), (3, .int a3), (4, .int x2), (5, .long 0), (7, .int 0)]) [3, 4, 6, 2, 1, 0] rfl ?_
  exact B14  zF a1 a3 x2 0 0 hf
noncomputable def fX7_farthest (a0 : Int32) : Option (Int64) :=
  if 5 ≤ a0 then (some 32768)
    else (some 128)
set_option maxHeartbeats 4000000 in
set_option maxRecDepth 100000 in
theorem wX7_farthest (E : zE) (a0 : Int32) (x : Int64) (hf : fX7_farthest a0 = some x) (l : Launch) (sz : Nat) : zM l yX7_farthest cX7_farthest 1 (some .long) { frames := 0, cells := 0, slots := 0, locals := 0 } E [.int a0] [] sz (some (.long x)) [] := by
  refine zEnter (by decide) (Nat.le_of_ble_eq_true rfl) ?_
  intro C hC hR
  change zC C E cX7_farthest "PackedCacheModel" 1 _ at hC
  unfold fX7_farthest at hf
  refine j_sub (lv' := [(0, .int a0)]) [0] rfl ?_
  refine j_iload_n (q := 1) hC dX7_farthest_0 rfl rfl 0 rfl ?_
  refine j_iconst (q := 2) (v := 5) hC dX7_farthest_1 rfl (by decide) ?_
  refine j_icmp_ge (tgt := 11) (q := 5) hC dX7_farthest_2 (by decide) rfl hf (fun _ hf => ?_) (fun _ hf => ?_)
  · refine j_ldc2 (q := 14) hC (v := 32768) dX7_farthest_11 rfl zw_1290 ?_
    have hx := Option.some.inj hf
    exact j_lret hC hR dX7_farthest_14 (by rw [← hx]) rfl
  · refine j_ldc2 (q := 8) hC (v := 128) dX7_farthest_5 rfl zw_1289 ?_
    refine j_goto (tgt := 14) hC dX7_farthest_8 (by decide) ?_
    have hx := Option.some.inj hf
    exact j_lret hC hR dX7_farthest_14 (by rw [← hx]) rfl
noncomputable def fX7_isSmall (a0 : Int32) (a1 : Int64) : Option (Int32) :=
  (fX7_farthest a0).bind fun x1 =>
    zlet (-x1 : Int64) fun x2 =>
    zlet (lg_cmp a1 x2 : Int32) fun x3 =>
    if x3 < 0 then (some 0)
    else (zlet (lg_cmp a1 x1 : Int32) fun x4 =>
    if 0 ≤ x4 then (some 0)
    else (some 1))
set_option maxHeartbeats 4000000 in
set_option maxRecDepth 100000 in
theorem wX7_isSmall (E : zE) (a0 : Int32) (a1 : Int64) (x : Int32) (hf : fX7_isSmall a0 a1 = some x) (l : Launch) (sz : Nat) : zM l yX7_isSmall cX7_isSmall 5 (some .boolean) { frames := 1, cells := 0, slots := 0, locals := 20 } E [.int a0, .long a1] [] sz (some (.int x)) [] := by
  refine zEnter (by decide) (Nat.le_of_ble_eq_true rfl) ?_
  intro C hC hR
  change zC C E cX7_isSmall "PackedCacheModel" 5 _ at hC
  unfold fX7_isSmall at hf
  refine j_sub (lv' := [(0, .int a0), (1, .long a1)]) [0, 1] rfl ?_
  refine j_iload_n (q := 1) hC dX7_isSmall_0 rfl rfl 0 rfl ?_
  refine j_callS (q := 4) hC [.int a0] [] (fun x1 : Int64 => some (.long x1)) (fun x1 => []) (fun x1 => []) (fun x1 => [.long x1]) [] [] hf (fun x1 hx => wX7_farthest E a0 x1  hx) zy_X7_farthest zw_1286 (by unfold zRm; decide) rfl rfl (fun _ => rfl) (N := 0) (by decide) (fun _ => ⟨rfl, rfl, rfl⟩) rfl (Nat.le_of_ble_eq_true rfl) dX7_isSmall_1 rfl rfl (fun _ => rfl) (fun x1 hf => ?_)
  refine j_lstore_n (q := 5) (lv' := [(3, .long x1), (0, .int a0), (1, .long a1)]) hC dX7_isSmall_4 rfl rfl (by decide) rfl ?_
  refine j_lload_n (q := 6) hC dX7_isSmall_5 rfl rfl 2 rfl ?_
  refine j_lload_n (q := 7) hC dX7_isSmall_6 rfl rfl 0 rfl ?_
  refine j_lneg (q := 8) hC dX7_isSmall_7 rfl hf (fun x2 hf => ?_)
  refine j_lcmp (q := 9) hC dX7_isSmall_8 rfl hf (fun x3 hf => ?_)
  refine j_if_lt (tgt := 22) (q := 12) hC dX7_isSmall_9 (by decide) rfl hf (fun _ hf => ?_) (fun _ hf => ?_)
  · refine j_iconst (q := 23) (v := 0) hC dX7_isSmall_22 rfl (by decide) ?_
    have hx := Option.some.inj hf
    exact j_zret hC hR rfl dX7_isSmall_23 (by rw [← hx]) rfl
  · refine j_lload_n (q := 13) hC dX7_isSmall_12 rfl rfl 2 rfl ?_
    refine j_lload_n (q := 14) hC dX7_isSmall_13 rfl rfl 0 rfl ?_
    refine j_lcmp (q := 15) hC dX7_isSmall_14 rfl hf (fun x4 hf => ?_)
    refine j_if_ge (tgt := 22) (q := 18) hC dX7_isSmall_15 (by decide) rfl hf (fun _ hf => ?_) (fun _ hf => ?_)
    · refine j_iconst (q := 23) (v := 0) hC dX7_isSmall_22 rfl (by decide) ?_
      have hx := Option.some.inj hf
      exact j_zret hC hR rfl dX7_isSmall_23 (by rw [← hx]) rfl
    · refine j_iconst (q := 19) (v := 1) hC dX7_isSmall_18 rfl (by decide) ?_
      refine j_goto (tgt := 23) hC dX7_isSmall_19 (by decide) ?_
      have hx := Option.some.inj hf
      exact j_zret hC hR rfl dX7_isSmall_23 (by rw [← hx]) rfl
noncomputable def fX7_baseOf_2 (s_x : (Nat → Int32))  : Nat → Int32 → Int32 → Int32 → Option (Int64)
  | 0, _, _, _ => none
  | m + 1, b1, b2, b3 =>
    (fX7_lanesOf b2).bind fun x1 =>
    if x1 ≤ b3 then (some 0)
    else ((fX7_laneOf s_x b1 b2 b3).bind fun x2 =>
    (fX7_isSmall b2 x2).bind fun x3 =>
    if x3 = 0 then ((fX7_laneOf s_x b1 b2 b3).bind fun x5 =>
    some x5)
    else (zlet (b3 + 1) fun x4 =>
    fX7_baseOf_2 s_x  m b1 b2 x4))
noncomputable def fX7_baseOf (s_x : (Nat → Int32)) (a1 : Int32) (a2 : Int32) : Option (Int64) :=
  fX7_baseOf_2 s_x  zF a1 a2 0
set_option maxHeartbeats 4000000 in
set_option maxRecDepth 100000 in
theorem wX7_baseOf (E : zE) (q_this : Nat) (q_x : Nat) (s_thrown : Int32) (s_trouble : Int32) (s_where : Int32) (s_taped : Int32) (s_size : Int32) (s_spot : Int32) (s_sort : Int32) (s_place : Int32) (s_number : Int32) (s_fault : Int32) (s_wrongAt : Int32) (s_letters : Int64) (s_acts : Int32) (s_images : Int32) (s_ways : Int32) (s_victims : Int32) (s_backs : Int32) (s_ordered : Int32) (s_hitNow : Int32) (s_hitsNow : Int32) (s_plainHit : Int32) (s_plainBack : Int32) (s_fitsNow : Int32) (s_someNow : Int32) (s_everyNow : Int32) (s_askLeft : Int32) (s_drawn : Int32) (s_x : (Nat → Int32)) (v_cache : Value) (v_read : Value) (v_tape : Value) (v_v0 : Value) (v_past : Value) (v_kept : Value) (v_order : Value) (v_plainLine : Value) (v_plainDirty : Value) (v_otherIn : Value) (a1 : Int32) (a2 : Int32) (x : Int64) (hf : fX7_baseOf s_x a1 a2 = some x) (l : Launch) (sz : Nat) : zM l yX7_baseOf cX7_baseOf 4 (some .long) { frames := 3, cells := 0, slots := 0, locals := 70 } E [.ref q_this, .int a1, .int a2] [(q_this, .inr (6, [.int s_thrown, .int s_trouble, .int s_where, v_cache, v_read, v_tape, .int s_taped, .int s_size, .int s_spot, .int s_sort, .int s_place, .int s_number, .int s_fault, .int s_wrongAt, .long s_letters, v_v0, .ref q_x, v_past, v_kept, .int s_acts, .int s_images, .int s_ways, .int s_victims, .int s_backs, v_order, .int s_ordered, .int s_hitNow, .int s_hitsNow, v_plainLine, v_plainDirty, .int s_plainHit, .int s_plainBack, .int s_fitsNow, .int s_someNow, .int s_everyNow, v_otherIn, .int s_askLeft, .int s_drawn])), (q_x, .inl (E.2.1 0, 609, .inl s_x))] sz (some (.long x)) [(q_this, .inr (6, [.int s_thrown, .int s_trouble, .int s_where, v_cache, v_read, v_tape, .int s_taped, .int s_size, .int s_spot, .int s_sort, .int s_place, .int s_number, .int s_fault, .int s_wrongAt, .long s_letters, v_v0, .ref q_x, v_past, v_kept, .int s_acts, .int s_images, .int s_ways, .int s_victims, .int s_backs, v_order, .int s_ordered, .int s_hitNow, .int s_hitsNow, v_plainLine, v_plainDirty, .int s_plainHit, .int s_plainBack, .int s_fitsNow, .int s_someNow, .int s_everyNow, v_otherIn, .int s_askLeft, .int s_drawn])), (q_x, .inl (E.2.1 0, 609, .inl s_x))] := by
  refine zEnter (by decide) (Nat.le_of_ble_eq_true rfl) ?_
  intro C hC hR
  change zC C E cX7_baseOf "PackedCacheModel" 4 _ at hC
  have B2 : ∀ (N : Nat), ∀ (b1 : Int32) (b2 : Int32) (b3 : Int32), fX7_baseOf_2 s_x  N b1 b2 b3 = some x → J C 0 0 [(q_this, .inr (6, [.int s_thrown, .int s_trouble, .int s_where, v_cache, v_read, v_tape, .int s_taped, .int s_size, .int s_spot, .int s_sort, .int s_place, .int s_number, .int s_fault, .int s_wrongAt, .long s_letters, v_v0, .ref q_x, v_past, v_kept, .int s_acts, .int s_images, .int s_ways, .int s_victims, .int s_backs, v_order, .int s_ordered, .int s_hitNow, .int s_hitsNow, v_plainLine, v_plainDirty, .int s_plainHit, .int s_plainBack, .int s_fitsNow, .int s_someNow, .int s_everyNow, v_otherIn, .int s_askLeft, .int s_drawn])), (q_x, .inl (E.2.1 0, 609, .inl s_x))] [(0, .ref q_this), (1, .int b1), (2, .int b2), (3, .int b3)] 2 [] := by
    intro  N
    induction N with
    | zero =>
      intro b1 b2 b3 hf
      rw [fX7_baseOf_2] at hf
      cases hf
    | succ m ih =>
      intro b1 b2 b3 hf
      rw [fX7_baseOf_2] at hf
      refine j_iload_n (q := 3) hC dX7_baseOf_2 rfl rfl 3 rfl ?_
      refine j_iload_n (q := 4) hC dX7_baseOf_3 rfl rfl 2 rfl ?_
      refine j_callS (q := 7) hC [.int b2] [.int b3] (fun x1 : Int32 => some (.int x1)) (fun x1 => []) (fun x1 => [(q_this, .inr (6, [.int s_thrown, .int s_trouble, .int s_where, v_cache, v_read, v_tape, .int s_taped, .int s_size, .int s_spot, .int s_sort, .int s_place, .int s_number, .int s_fault, .int s_wrongAt, .long s_letters, v_v0, .ref q_x, v_past, v_kept, .int s_acts, .int s_images, .int s_ways, .int s_victims, .int s_backs, v_order, .int s_ordered, .int s_hitNow, .int s_hitsNow, v_plainLine, v_plainDirty, .int s_plainHit, .int s_plainBack, .int s_fitsNow, .int s_someNow, .int s_everyNow, v_otherIn, .int s_askLeft, .int s_drawn])), (q_x, .inl (E.2.1 0, 609, .inl s_x))]) (fun x1 => [.int x1, .int b3]) [] [0, 1] hf (fun x1 hx => wX7_lanesOf E b2 x1  hx) zy_X7_lanesOf zw_1269 (by unfold zRm; decide) rfl rfl (fun _ => rfl) (N := 2) (by decide) (fun _ => ⟨rfl, rfl, rfl⟩) rfl (Nat.le_of_ble_eq_true rfl) dX7_baseOf_4 rfl rfl (fun _ => rfl) (fun x1 hf => ?_)
      refine j_icmp_ge (tgt := 38) (q := 10) hC dX7_baseOf_7 (by decide) rfl hf (fun _ hf => ?_) (fun _ hf => ?_)
      · refine j_lconst (q := 39) (v := 0) hC dX7_baseOf_38 rfl (by decide) ?_
        have hx := Option.some.inj hf
        exact j_lret hC hR dX7_baseOf_39 (by rw [← hx]) rfl
      · refine j_iload_n (q := 11) hC dX7_baseOf_10 rfl rfl 2 rfl ?_
        refine j_aload_n (q := 12) hC dX7_baseOf_11 rfl rfl 0 rfl ?_
        refine j_iload_n (q := 13) hC dX7_baseOf_12 rfl rfl 1 rfl ?_
        refine j_iload_n (q := 14) hC dX7_baseOf_13 rfl rfl 2 rfl ?_
        refine j_iload_n (q := 15) hC dX7_baseOf_14 rfl rfl 3 rfl ?_
        refine j_callV (q := 18) hC [.int b1, .int b2, .int b3] [.int b2] (fun x2 : Int64 => some (.long x2)) (fun x2 => [(q_this, .inr (6, [.int s_thrown, .int s_trouble, .int s_where, v_cache, v_read, v_tape, .int s_taped, .int s_size, .int s_spot, .int s_sort, .int s_place, .int s_number, .int s_fault, .int s_wrongAt, .long s_letters, v_v0, .ref q_x, v_past, v_kept, .int s_acts, .int s_images, .int s_ways, .int s_victims, .int s_backs, v_order, .int s_ordered, .int s_hitNow, .int s_hitsNow, v_plainLine, v_plainDirty, .int s_plainHit, .int s_plainBack, .int s_fitsNow, .int s_someNow, .int s_everyNow, v_otherIn, .int s_askLeft, .int s_drawn])), (q_x, .inl (E.2.1 0, 609, .inl s_x))]) (fun x2 => [(q_this, .inr (6, [.int s_thrown, .int s_trouble, .int s_where, v_cache, v_read, v_tape, .int s_taped, .int s_size, .int s_spot, .int s_sort, .int s_place, .int s_number, .int s_fault, .int s_wrongAt, .long s_letters, v_v0, .ref q_x, v_past, v_kept, .int s_acts, .int s_images, .int s_ways, .int s_victims, .int s_backs, v_order, .int s_ordered, .int s_hitNow, .int s_hitsNow, v_plainLine, v_plainDirty, .int s_plainHit, .int s_plainBack, .int s_fitsNow, .int s_someNow, .int s_everyNow, v_otherIn, .int s_askLeft, .int s_drawn])), (q_x, .inl (E.2.1 0, 609, .inl s_x))]) (fun x2 => [.long x2, .int b2]) [0, 1] [] hf (fun x2 hx => wX7_laneOf E q_this q_x s_thrown s_trouble s_where s_taped s_size s_spot s_sort s_place s_number s_fault s_wrongAt s_letters s_acts s_images s_ways s_victims s_backs s_ordered s_hitNow s_hitsNow s_plainHit s_plainBack s_fitsNow s_someNow s_everyNow s_askLeft s_drawn s_x (v_cache) (v_read) (v_tape) (v_v0) (v_past) (v_kept) (v_order) (v_plainLine) (v_plainDirty) (v_otherIn) b1 b2 b3 x2  hx) zy_X7_laneOf zw_1279 (by unfold zRm; decide) rfl rfl (fun _ => rfl) (N := 2) (by decide) (fun _ => ⟨rfl, rfl, rfl⟩) rfl rfl rfl (Nat.le_of_ble_eq_true rfl) dX7_baseOf_15 rfl rfl (fun _ => rfl) (fun x2 hf => ?_)
        refine j_callS (q := 21) hC [.int b2, .long x2] [] (fun x3 : Int32 => some (.int x3)) (fun x3 => []) (fun x3 => [(q_this, .inr (6, [.int s_thrown, .int s_trouble, .int s_where, v_cache, v_read, v_tape, .int s_taped, .int s_size, .int s_spot, .int s_sort, .int s_place, .int s_number, .int s_fault, .int s_wrongAt, .long s_letters, v_v0, .ref q_x, v_past, v_kept, .int s_acts, .int s_images, .int s_ways, .int s_victims, .int s_backs, v_order, .int s_ordered, .int s_hitNow, .int s_hitsNow, v_plainLine, v_plainDirty, .int s_plainHit, .int s_plainBack, .int s_fitsNow, .int s_someNow, .int s_everyNow, v_otherIn, .int s_askLeft, .int s_drawn])), (q_x, .inl (E.2.1 0, 609, .inl s_x))]) (fun x3 => [.int x3]) [] [0, 1] hf (fun x3 hx => wX7_isSmall E b2 x2 x3  hx) zy_X7_isSmall zw_1283 (by unfold zRm; decide) rfl rfl (fun _ => rfl) (N := 2) (by decide) (fun _ => ⟨rfl, rfl, rfl⟩) rfl (Nat.le_of_ble_eq_true rfl) dX7_baseOf_18 rfl rfl (fun _ => rfl) (fun x3 hf => ?_)
        refine j_if_ne (tgt := 32) (q := 24) hC dX7_baseOf_21 (by decide) rfl hf (fun _ hf => ?_) (fun _ hf => ?_)
        · refine j_iinc (q := 35) (v := 1) hC (fun x4 => [(3, .int x4), (0, .ref q_this), (1, .int b1), (2, .int b2)]) dX7_baseOf_32 rfl 3 rfl (by decide) (by decide) (fun _ => rfl) hf (fun x4 hf => ?_)
          refine j_goto (tgt := 2) hC dX7_baseOf_35 (by decide) ?_
          refine j_sub (lv' := [(0, .ref q_this), (1, .int b1), (2, .int b2), (3, .int x4)]) [1, 2, 3, 0] rfl ?_
          exact ih b1 b2 x4 hf
        · refine j_aload_n (q := 25) hC dX7_baseOf_24 rfl rfl 0 rfl ?_
          refine j_iload_n (q := 26) hC dX7_baseOf_25 rfl rfl 1 rfl ?_
          refine j_iload_n (q := 27) hC dX7_baseOf_26 rfl rfl 2 rfl ?_
          refine j_iload_n (q := 28) hC dX7_baseOf_27 rfl rfl 3 rfl ?_
          refine j_callV (q := 31) hC [.int b1, .int b2, .int b3] [] (fun x5 : Int64 => some (.long x5)) (fun x5 => [(q_this, .inr (6, [.int s_thrown, .int s_trouble, .int s_where, v_cache, v_read, v_tape, .int s_taped, .int s_size, .int s_spot, .int s_sort, .int s_place, .int s_number, .int s_fault, .int s_wrongAt, .long s_letters, v_v0, .ref q_x, v_past, v_kept, .int s_acts, .int s_images, .int s_ways, .int s_victims, .int s_backs, v_order, .int s_ordered, .int s_hitNow, .int s_hitsNow, v_plainLine, v_plainDirty, .int s_plainHit, .int s_plainBack, .int s_fitsNow, .int s_someNow, .int s_everyNow, v_otherIn, .int s_askLeft, .int s_drawn])), (q_x, .inl (E.2.1 0, 609, .inl s_x))]) (fun x5 => [(q_this, .inr (6, [.int s_thrown, .int s_trouble, .int s_where, v_cache, v_read, v_tape, .int s_taped, .int s_size, .int s_spot, .int s_sort, .int s_place, .int s_number, .int s_fault, .int s_wrongAt, .long s_letters, v_v0, .ref q_x, v_past, v_kept, .int s_acts, .int s_images, .int s_ways, .int s_victims, .int s_backs, v_order, .int s_ordered, .int s_hitNow, .int s_hitsNow, v_plainLine, v_plainDirty, .int s_plainHit, .int s_plainBack, .int s_fitsNow, .int s_someNow, .int s_everyNow, v_otherIn, .int s_askLeft, .int s_drawn])), (q_x, .inl (E.2.1 0, 609, .inl s_x))]) (fun x5 => [.long x5]) [0, 1] [] hf (fun x5 hx => wX7_laneOf E q_this q_x s_thrown s_trouble s_where s_taped s_size s_spot s_sort s_place s_number s_fault s_wrongAt s_letters s_acts s_images s_ways s_victims s_backs s_ordered s_hitNow s_hitsNow s_plainHit s_plainBack s_fitsNow s_someNow s_everyNow s_askLeft s_drawn s_x (v_cache) (v_read) (v_tape) (v_v0) (v_past) (v_kept) (v_order) (v_plainLine) (v_plainDirty) (v_otherIn) b1 b2 b3 x5  hx) zy_X7_laneOf zw_1279 (by unfold zRm; decide) rfl rfl (fun _ => rfl) (N := 2) (by decide) (fun _ => ⟨rfl, rfl, rfl⟩) rfl rfl rfl (Nat.le_of_ble_eq_true rfl) dX7_baseOf_28 rfl rfl (fun _ => rfl) (fun x5 hf => ?_)
          have hx := Option.some.inj hf
          exact j_lret hC hR dX7_baseOf_31 (by rw [← hx]) rfl
  unfold fX7_baseOf at hf
  refine j_sub (lv' := [(0, .ref q_this), (1, .int a1), (2, .int a2)]) [0, 1, 2] rfl ?_
  refine j_iconst (q := 1) (v := 0) hC dX7_baseOf_0 rfl (by decide) ?_
  refine j_istore_n (q := 2) (lv' := [(3, .int 0), (0, .ref q_this), (1, .int a1), (2, .int a2)]) hC dX7_baseOf_1 rfl rfl (by decide) rfl ?_
  refine j_sub (lv' := [(0, .ref q_this), (1, .int a1), (2, .int a2), (3, .int 0)]) [1, 2, 3, 0] rfl ?_
  exact B2  zF a1 a2 0 hf
noncomputable def fX7_differenceOf (s_x : (Nat → Int32)) (a1 : Int32) (a2 : Int32) (a3 : Int32) : Option (Int64) :=
  (fX7_laneOf s_x a1 a2 a3).bind fun x1 =>
    (fX7_isSmall a2 x1).bind fun x2 =>
    if x2 = 0 then ((fX7_baseOf s_x a1 a2).bind fun x3 =>
    zlet (x1 - x3 : Int64) fun x4 =>
    some x4)
    else (some x1)
set_option maxHeartbeats 4000000 in
set_option maxRecDepth 100000 in
theorem wX7_differenceOf (E : zE) (q_this : Nat) (q_x : Nat) (s_thrown : Int32) (s_trouble : Int32) (s_where : Int32) (s_taped : Int32) (s_size : Int32) (s_spot : Int32) (s_sort : Int32) (s_place : Int32) (s_number : Int32) (s_fault : Int32) (s_wrongAt : Int32) (s_letters : Int64) (s_acts : Int32) (s_images : Int32) (s_ways : Int32) (s_victims : Int32) (s_backs : Int32) (s_ordered : Int32) (s_hitNow : Int32) (s_hitsNow : Int32) (s_plainHit : Int32) (s_plainBack : Int32) (s_fitsNow : Int32) (s_someNow : Int32) (s_everyNow : Int32) (s_askLeft : Int32) (s_drawn : Int32) (s_x : (Nat → Int32)) (v_cache : Value) (v_read : Value) (v_tape : Value) (v_v0 : Value) (v_past : Value) (v_kept : Value) (v_order : Value) (v_plainLine : Value) (v_plainDirty : Value) (v_otherIn : Value) (a1 : Int32) (a2 : Int32) (a3 : Int32) (x : Int64) (hf : fX7_differenceOf s_x a1 a2 a3 = some x) (l : Launch) (sz : Nat) : zM l yX7_differenceOf cX7_differenceOf 6 (some .long) { frames := 4, cells := 0, slots := 0, locals := 93 } E [.ref q_this, .int a1, .int a2, .int a3] [(q_this, .inr (6, [.int s_thrown, .int s_trouble, .int s_where, v_cache, v_read, v_tape, .int s_taped, .int s_size, .int s_spot, .int s_sort, .int s_place, .int s_number, .int s_fault, .int s_wrongAt, .long s_letters, v_v0, .ref q_x, v_past, v_kept, .int s_acts, .int s_images, .int s_ways, .int s_victims, .int s_backs, v_order, .int s_ordered, .int s_hitNow, .int s_hitsNow, v_plainLine, v_plainDirty, .int s_plainHit, .int s_plainBack, .int s_fitsNow, .int s_someNow, .int s_everyNow, v_otherIn, .int s_askLeft, .int s_drawn])), (q_x, .inl (E.2.1 0, 609, .inl s_x))] sz (some (.long x)) [(q_this, .inr (6, [.int s_thrown, .int s_trouble, .int s_where, v_cache, v_read, v_tape, .int s_taped, .int s_size, .int s_spot, .int s_sort, .int s_place, .int s_number, .int s_fault, .int s_wrongAt, .long s_letters, v_v0, .ref q_x, v_past, v_kept, .int s_acts, .int s_images, .int s_ways, .int s_victims, .int s_backs, v_order, .int s_ordered, .int s_hitNow, .int s_hitsNow, v_plainLine, v_plainDirty, .int s_plainHit, .int s_plainBack, .int s_fitsNow, .int s_someNow, .int s_everyNow, v_otherIn, .int s_askLeft, .int s_drawn])), (q_x, .inl (E.2.1 0, 609, .inl s_x))] := by
  refine zEnter (by decide) (Nat.le_of_ble_eq_true rfl) ?_
  intro C hC hR
  change zC C E cX7_differenceOf "PackedCacheModel" 6 _ at hC
  unfold fX7_differenceOf at hf
  refine j_sub (lv' := [(0, .ref q_this), (1, .int a1), (2, .int a2), (3, .int a3)]) [0, 1, 2, 3] rfl ?_
  refine j_aload_n (q := 1) hC dX7_differenceOf_0 rfl rfl 0 rfl ?_
  refine j_iload_n (q := 2) hC dX7_differenceOf_1 rfl rfl 1 rfl ?_
  refine j_iload_n (q := 3) hC dX7_differenceOf_2 rfl rfl 2 rfl ?_
  refine j_iload_n (q := 4) hC dX7_differenceOf_3 rfl rfl 3 rfl ?_
  refine j_callV (q := 7) hC [.int a1, .int a2, .int a3] [] (fun x1 : Int64 => some (.long x1)) (fun x1 => [(q_this, .inr (6, [.int s_thrown, .int s_trouble, .int s_where, v_cache, v_read, v_tape, .int s_taped, .int s_size, .int s_spot, .int s_sort, .int s_place, .int s_number, .int s_fault, .int s_wrongAt, .long s_letters, v_v0, .ref q_x, v_past, v_kept, .int s_acts, .int s_images, .int s_ways, .int s_victims, .int s_backs, v_order, .int s_ordered, .int s_hitNow, .int s_hitsNow, v_plainLine, v_plainDirty, .int s_plainHit, .int s_plainBack, .int s_fitsNow, .int s_someNow, .int s_everyNow, v_otherIn, .int s_askLeft, .int s_drawn])), (q_x, .inl (E.2.1 0, 609, .inl s_x))]) (fun x1 => [(q_this, .inr (6, [.int s_thrown, .int s_trouble, .int s_where, v_cache, v_read, v_tape, .int s_taped, .int s_size, .int s_spot, .int s_sort, .int s_place, .int s_number, .int s_fault, .int s_wrongAt, .long s_letters, v_v0, .ref q_x, v_past, v_kept, .int s_acts, .int s_images, .int s_ways, .int s_victims, .int s_backs, v_order, .int s_ordered, .int s_hitNow, .int s_hitsNow, v_plainLine, v_plainDirty, .int s_plainHit, .int s_plainBack, .int s_fitsNow, .int s_someNow, .int s_everyNow, v_otherIn, .int s_askLeft, .int s_drawn])), (q_x, .inl (E.2.1 0, 609, .inl s_x))]) (fun x1 => [.long x1]) [0, 1] [] hf (fun x1 hx => wX7_laneOf E q_this q_x s_thrown s_trouble s_where s_taped s_size s_spot s_sort s_place s_number s_fault s_wrongAt s_letters s_acts s_images s_ways s_victims s_backs s_ordered s_hitNow s_hitsNow s_plainHit s_plainBack s_fitsNow s_someNow s_everyNow s_askLeft s_drawn s_x (v_cache) (v_read) (v_tape) (v_v0) (v_past) (v_kept) (v_order) (v_plainLine) (v_plainDirty) (v_otherIn) a1 a2 a3 x1  hx) zy_X7_laneOf zw_1279 (by unfold zRm; decide) rfl rfl (fun _ => rfl) (N := 2) (by decide) (fun _ => ⟨rfl, rfl, rfl⟩) rfl rfl rfl (Nat.le_of_ble_eq_true rfl) dX7_differenceOf_4 rfl rfl (fun _ => rfl) (fun x1 hf => ?_)
  refine j_lstore (q := 9) (lv' := [(4, .long x1), (0, .ref q_this), (1, .int a1), (2, .int a2), (3, .int a3)]) hC dX7_differenceOf_7 rfl (by decide) rfl ?_
  refine j_iload_n (q := 10) hC dX7_differenceOf_9 rfl rfl 3 rfl ?_
  refine j_lload (q := 12) hC dX7_differenceOf_10 rfl 0 rfl ?_
  refine j_callS (q := 15) hC [.int a2, .long x1] [] (fun x2 : Int32 => some (.int x2)) (fun x2 => []) (fun x2 => [(q_this, .inr (6, [.int s_thrown, .int s_trouble, .int s_where, v_cache, v_read, v_tape, .int s_taped, .int s_size, .int s_spot, .int s_sort, .int s_place, .int s_number, .int s_fault, .int s_wrongAt, .long s_letters, v_v0, .ref q_x, v_past, v_kept, .int s_acts, .int s_images, .int s_ways, .int s_victims, .int s_backs, v_order, .int s_ordered, .int s_hitNow, .int s_hitsNow, v_plainLine, v_plainDirty, .int s_plainHit, .int s_plainBack, .int s_fitsNow, .int s_someNow, .int s_everyNow, v_otherIn, .int s_askLeft, .int s_drawn])), (q_x, .inl (E.2.1 0, 609, .inl s_x))]) (fun x2 => [.int x2]) [] [0, 1] hf (fun x2 hx => wX7_isSmall E a2 x1 x2  hx) zy_X7_isSmall zw_1283 (by unfold zRm; decide) rfl rfl (fun _ => rfl) (N := 2) (by decide) (fun _ => ⟨rfl, rfl, rfl⟩) rfl (Nat.le_of_ble_eq_true rfl) dX7_differenceOf_12 rfl rfl (fun _ => rfl) (fun x2 hf => ?_)
  refine j_if_eq (tgt := 23) (q := 18) hC dX7_differenceOf_15 (by decide) rfl hf (fun _ hf => ?_) (fun _ hf => ?_)
  · refine j_lload (q := 25) hC dX7_differenceOf_23 rfl 0 rfl ?_
    refine j_aload_n (q := 26) hC dX7_differenceOf_25 rfl rfl 1 rfl ?_
    refine j_iload_n (q := 27) hC dX7_differenceOf_26 rfl rfl 2 rfl ?_
    refine j_iload_n (q := 28) hC dX7_differenceOf_27 rfl rfl 3 rfl ?_
    refine j_callV (q := 31) hC [.int a1, .int a2] [.long x1] (fun x3 : Int64 => some (.long x3)) (fun x3 => [(q_this, .inr (6, [.int s_thrown, .int s_trouble, .int s_where, v_cache, v_read, v_tape, .int s_taped, .int s_size, .int s_spot, .int s_sort, .int s_place, .int s_number, .int s_fault, .int s_wrongAt, .long s_letters, v_v0, .ref q_x, v_past, v_kept, .int s_acts, .int s_images, .int s_ways, .int s_victims, .int s_backs, v_order, .int s_ordered, .int s_hitNow, .int s_hitsNow, v_plainLine, v_plainDirty, .int s_plainHit, .int s_plainBack, .int s_fitsNow, .int s_someNow, .int s_everyNow, v_otherIn, .int s_askLeft, .int s_drawn])), (q_x, .inl (E.2.1 0, 609, .inl s_x))]) (fun x3 => [(q_this, .inr (6, [.int s_thrown, .int s_trouble, .int s_where, v_cache, v_read, v_tape, .int s_taped, .int s_size, .int s_spot, .int s_sort, .int s_place, .int s_number, .int s_fault, .int s_wrongAt, .long s_letters, v_v0, .ref q_x, v_past, v_kept, .int s_acts, .int s_images, .int s_ways, .int s_victims, .int s_backs, v_order, .int s_ordered, .int s_hitNow, .int s_hitsNow, v_plainLine, v_plainDirty, .int s_plainHit, .int s_plainBack, .int s_fitsNow, .int s_someNow, .int s_everyNow, v_otherIn, .int s_askLeft, .int s_drawn])), (q_x, .inl (E.2.1 0, 609, .inl s_x))]) (fun x3 => [.long x3, .long x1]) [0, 1] [] hf (fun x3 hx => wX7_baseOf E q_this q_x s_thrown s_trouble s_where s_taped s_size s_spot s_sort s_place s_number s_fault s_wrongAt s_letters s_acts s_images s_ways s_victims s_backs s_ordered s_hitNow s_hitsNow s_plainHit s_plainBack s_fitsNow s_someNow s_everyNow s_askLeft s_drawn s_x (v_cache) (v_read) (v_tape) (v_v0) (v_past) (v_kept) (v_order) (v_plainLine) (v_plainDirty) (v_otherIn) a1 a2 x3  hx) zy_X7_baseOf zw_1291 (by unfold zRm; decide) rfl rfl (fun _ => rfl) (N := 2) (by decide) (fun _ => ⟨rfl, rfl, rfl⟩) rfl rfl rfl (Nat.le_of_ble_eq_true rfl) dX7_differenceOf_28 rfl rfl (fun _ => rfl) (fun x3 hf => ?_)
    refine j_lsub (q := 32) hC dX7_differenceOf_31 rfl hf (fun x4 hf => ?_)
    have hx := Option.some.inj hf
    exact j_lret hC hR dX7_differenceOf_32 (by rw [← hx]) rfl
  · refine j_lload (q := 20) hC dX7_differenceOf_18 rfl 0 rfl ?_
    refine j_goto (tgt := 32) hC dX7_differenceOf_20 (by decide) ?_
    have hx := Option.some.inj hf
    exact j_lret hC hR dX7_differenceOf_32 (by rw [← hx]) rfl
noncomputable def fX7_isAll_2 (s_x : (Nat → Int32))  : Nat → Int32 → Int32 → Int32 → Option (Int32)
  | 0, _, _, _ => none
  | m + 1, b1, b2, b3 =>
    if 8 ≤ b3 then (some 1)
    else ((fX7_wordOf s_x b1 b3).bind fun x1 =>
    if x1 = b2 then (zlet (b3 + 1) fun x2 =>
    fX7_isAll_2 s_x  m b1 b2 x2)
    else (some 0))
noncomputable def fX7_isAll (s_x : (Nat → Int32)) (a1 : Int32) (a2 : Int32) : Option (Int32) :=
  fX7_isAll_2 s_x  zF a1 a2 0
set_option maxHeartbeats 4000000 in
set_option maxRecDepth 100000 in
theorem wX7_isAll (E : zE) (q_this : Nat) (q_x : Nat) (s_thrown : Int32) (s_trouble : Int32) (s_where : Int32) (s_taped : Int32) (s_size : Int32) (s_spot : Int32) (s_sort : Int32) (s_place : Int32) (s_number : Int32) (s_fault : Int32) (s_wrongAt : Int32) (s_letters : Int64) (s_acts : Int32) (s_images : Int32) (s_ways : Int32) (s_victims : Int32) (s_backs : Int32) (s_ordered : Int32) (s_hitNow : Int32) (s_hitsNow : Int32) (s_plainHit : Int32) (s_plainBack : Int32) (s_fitsNow : Int32) (s_someNow : Int32) (s_everyNow : Int32) (s_askLeft : Int32) (s_drawn : Int32) (s_x : (Nat → Int32)) (v_cache : Value) (v_read : Value) (v_tape : Value) (v_v0 : Value) (v_past : Value) (v_kept : Value) (v_order : Value) (v_plainLine : Value) (v_plainDirty : Value) (v_otherIn : Value) (a1 : Int32) (a2 : Int32) (x : Int32) (hf : fX7_isAll s_x a1 a2 = some x) (l : Launch) (sz : Nat) : zM l yX7_isAll cX7_isAll 4 (some .boolean) { frames := 2, cells := 0, slots := 0, locals := 43 } E [.ref q_this, .int a1, .int a2] [(q_this, .inr (6, [.int s_thrown, .int s_trouble, .int s_where, v_cache, v_read, v_tape, .int s_taped, .int s_size, .int s_spot, .int s_sort, .int s_place, .int s_number, .int s_fault, .int s_wrongAt, .long s_letters, v_v0, .ref q_x, v_past, v_kept, .int s_acts, .int s_images, .int s_ways, .int s_victims, .int s_backs, v_order, .int s_ordered, .int s_hitNow, .int s_hitsNow, v_plainLine, v_plainDirty, .int s_plainHit, .int s_plainBack, .int s_fitsNow, .int s_someNow, .int s_everyNow, v_otherIn, .int s_askLeft, .int s_drawn])), (q_x, .inl (E.2.1 0, 609, .inl s_x))] sz (some (.int x)) [(q_this, .inr (6, [.int s_thrown, .int s_trouble, .int s_where, v_cache, v_read, v_tape, .int s_taped, .int s_size, .int s_spot, .int s_sort, .int s_place, .int s_number, .int s_fault, .int s_wrongAt, .long s_letters, v_v0, .ref q_x, v_past, v_kept, .int s_acts, .int s_images, .int s_ways, .int s_victims, .int s_backs, v_order, .int s_ordered, .int s_hitNow, .int s_hitsNow, v_plainLine, v_plainDirty, .int s_plainHit, .int s_plainBack, .int s_fitsNow, .int s_someNow, .int s_everyNow, v_otherIn, .int s_askLeft, .int s_drawn])), (q_x, .inl (E.2.1 0, 609, .inl s_x))] := by
  refine zEnter (by decide) (Nat.le_of_ble_eq_true rfl) ?_
  intro C hC hR
  change zC C E cX7_isAll "PackedCacheModel" 4 _ at hC
  have B2 : ∀ (N : Nat), ∀ (b1 : Int32) (b2 : Int32) (b3 : Int32), fX7_isAll_2 s_x  N b1 b2 b3 = some x → J C 0 0 [(q_this, .inr (6, [.int s_thrown, .int s_trouble, .int s_where, v_cache, v_read, v_tape, .int s_taped, .int s_size, .int s_spot, .int s_sort, .int s_place, .int s_number, .int s_fault, .int s_wrongAt, .long s_letters, v_v0, .ref q_x, v_past, v_kept, .int s_acts, .int s_images, .int s_ways, .int s_victims, .int s_backs, v_order, .int s_ordered, .int s_hitNow, .int s_hitsNow, v_plainLine, v_plainDirty, .int s_plainHit, .int s_plainBack, .int s_fitsNow, .int s_someNow, .int s_everyNow, v_otherIn, .int s_askLeft, .int s_drawn])), (q_x, .inl (E.2.1 0, 609, .inl s_x))] [(0, .ref q_this), (1, .int b1), (2, .int b2), (3, .int b3)] 2 [] := by
    intro  N
    induction N with
    | zero =>
      intro b1 b2 b3 hf
      rw [fX7_isAll_2] at hf
      cases hf
    | succ m ih =>
      intro b1 b2 b3 hf
      rw [fX7_isAll_2] at hf
      refine j_iload_n (q := 3) hC dX7_isAll_2 rfl rfl 3 rfl ?_
      refine j_bipush (q := 5) (v := 8) hC dX7_isAll_3 rfl (by decide) ?_
      refine j_icmp_ge (tgt := 26) (q := 8) hC dX7_isAll_5 (by decide) rfl hf (fun _ hf => ?_) (fun _ hf => ?_)
      · refine j_iconst (q := 27) (v := 1) hC dX7_isAll_26 rfl (by decide) ?_
        have hx := Option.some.inj hf
        exact j_zret hC hR rfl dX7_isAll_27 (by rw [← hx]) rfl
      · refine j_aload_n (q := 9) hC dX7_isAll_8 rfl rfl 0 rfl ?_
        refine j_iload_n (q := 10) hC dX7_isAll_9 rfl rfl 1 rfl ?_
        refine j_iload_n (q := 11) hC dX7_isAll_10 rfl rfl 3 rfl ?_
        refine j_callV (q := 14) hC [.int b1, .int b3] [] (fun x1 : Int32 => some (.int x1)) (fun x1 => [(q_this, .inr (6, [.int s_thrown, .int s_trouble, .int s_where, v_cache, v_read, v_tape, .int s_taped, .int s_size, .int s_spot, .int s_sort, .int s_place, .int s_number, .int s_fault, .int s_wrongAt, .long s_letters, v_v0, .ref q_x, v_past, v_kept, .int s_acts, .int s_images, .int s_ways, .int s_victims, .int s_backs, v_order, .int s_ordered, .int s_hitNow, .int s_hitsNow, v_plainLine, v_plainDirty, .int s_plainHit, .int s_plainBack, .int s_fitsNow, .int s_someNow, .int s_everyNow, v_otherIn, .int s_askLeft, .int s_drawn])), (q_x, .inl (E.2.1 0, 609, .inl s_x))]) (fun x1 => [(q_this, .inr (6, [.int s_thrown, .int s_trouble, .int s_where, v_cache, v_read, v_tape, .int s_taped, .int s_size, .int s_spot, .int s_sort, .int s_place, .int s_number, .int s_fault, .int s_wrongAt, .long s_letters, v_v0, .ref q_x, v_past, v_kept, .int s_acts, .int s_images, .int s_ways, .int s_victims, .int s_backs, v_order, .int s_ordered, .int s_hitNow, .int s_hitsNow, v_plainLine, v_plainDirty, .int s_plainHit, .int s_plainBack, .int s_fitsNow, .int s_someNow, .int s_everyNow, v_otherIn, .int s_askLeft, .int s_drawn])), (q_x, .inl (E.2.1 0, 609, .inl s_x))]) (fun x1 => [.int x1]) [0, 1] [] hf (fun x1 hx => wX7_wordOf E q_this q_x s_thrown s_trouble s_where s_taped s_size s_spot s_sort s_place s_number s_fault s_wrongAt s_letters s_acts s_images s_ways s_victims s_backs s_ordered s_hitNow s_hitsNow s_plainHit s_plainBack s_fitsNow s_someNow s_everyNow s_askLeft s_drawn s_x (v_cache) (v_read) (v_tape) (v_v0) (v_past) (v_kept) (v_order) (v_plainLine) (v_plainDirty) (v_otherIn) b1 b3 x1  hx) zy_X7_wordOf zw_1237 (by unfold zRm; decide) rfl rfl (fun _ => rfl) (N := 2) (by decide) (fun _ => ⟨rfl, rfl, rfl⟩) rfl rfl rfl (Nat.le_of_ble_eq_true rfl) dX7_isAll_11 rfl rfl (fun _ => rfl) (fun x1 hf => ?_)
        refine j_iload_n (q := 15) hC dX7_isAll_14 rfl rfl 2 rfl ?_
        refine j_icmp_eq (tgt := 20) (q := 18) hC dX7_isAll_15 (by decide) rfl hf (fun _ hf => ?_) (fun _ hf => ?_)
        · refine j_iinc (q := 23) (v := 1) hC (fun x2 => [(3, .int x2), (0, .ref q_this), (1, .int b1), (2, .int b2)]) dX7_isAll_20 rfl 3 rfl (by decide) (by decide) (fun _ => rfl) hf (fun x2 hf => ?_)
          refine j_goto (tgt := 2) hC dX7_isAll_23 (by decide) ?_
          refine j_sub (lv' := [(0, .ref q_this), (1, .int b1), (2, .int b2), (3, .int x2)]) [1, 2, 3, 0] rfl ?_
          exact ih b1 b2 x2 hf
        · refine j_iconst (q := 19) (v := 0) hC dX7_isAll_18 rfl (by decide) ?_
          have hx := Option.some.inj hf
          exact j_zret hC hR rfl dX7_isAll_19 (by rw [← hx]) rfl
  unfold fX7_isAll at hf
  refine j_sub (lv' := [(0, .ref q_this), (1, .int a1), (2, .int a2)]) [0, 1, 2] rfl ?_
  refine j_iconst (q := 1) (v := 0) hC dX7_isAll_0 rfl (by decide) ?_
  refine j_istore_n (q := 2) (lv' := [(3, .int 0), (0, .ref q_this), (1, .int a1), (2, .int a2)]) hC dX7_isAll_1 rfl rfl (by decide) rfl ?_
  refine j_sub (lv' := [(0, .ref q_this), (1, .int a1), (2, .int a2), (3, .int 0)]) [1, 2, 3, 0] rfl ?_
  exact B2  zF a1 a2 0 hf
noncomputable def fX7_areSmall_2 (s_x : (Nat → Int32))  : Nat → Int32 → Int32 → Int32 → Option (Int32)
  | 0, _, _, _ => none
  | m + 1, b1, b2, b3 =>
    (fX7_lanesOf b2).bind fun x1 =>
    if x1 ≤ b3 then (some 1)
    else ((fX7_differenceOf s_x b1 b2 b3).bind fun x2 =>
    (fX7_isSmall b2 x2).bind fun x3 =>
    if x3 = 0 then (some 0)
    else (zlet (b3 + 1) fun x4 =>
    fX7_areSmall_2 s_x  m b1 b2 x4))
noncomputable def fX7_areSmall (s_x : (Nat → Int32)) (a1 : Int32) (a2 : Int32) : Option (Int32) :=
  fX7_areSmall_2 s_x  zF a1 a2 0
set_option maxHeartbeats 4000000 in
set_option maxRecDepth 100000 in
theorem wX7_areSmall (E : zE) (q_this : Nat) (q_x : Nat) (s_thrown : Int32) (s_trouble : Int32) (s_where : Int32) (s_taped : Int32) (s_size : Int32) (s_spot : Int32) (s_sort : Int32) (s_place : Int32) (s_number : Int32) (s_fault : Int32) (s_wrongAt : Int32) (s_letters : Int64) (s_acts : Int32) (s_images : Int32) (s_ways : Int32) (s_victims : Int32) (s_backs : Int32) (s_ordered : Int32) (s_hitNow : Int32) (s_hitsNow : Int32) (s_plainHit : Int32) (s_plainBack : Int32) (s_fitsNow : Int32) (s_someNow : Int32) (s_everyNow : Int32) (s_askLeft : Int32) (s_drawn : Int32) (s_x : (Nat → Int32)) (v_cache : Value) (v_read : Value) (v_tape : Value) (v_v0 : Value) (v_past : Value) (v_kept : Value) (v_order : Value) (v_plainLine : Value) (v_plainDirty : Value) (v_otherIn : Value) (a1 : Int32) (a2 : Int32) (x : Int32) (hf : fX7_areSmall s_x a1 a2 = some x) (l : Launch) (sz : Nat) : zM l yX7_areSmall cX7_areSmall 4 (some .boolean) { frames := 5, cells := 0, slots := 0, locals := 118 } E [.ref q_this, .int a1, .int a2] [(q_this, .inr (6, [.int s_thrown, .int s_trouble, .int s_where, v_cache, v_read, v_tape, .int s_taped, .int s_size, .int s_spot, .int s_sort, .int s_place, .int s_number, .int s_fault, .int s_wrongAt, .long s_letters, v_v0, .ref q_x, v_past, v_kept, .int s_acts, .int s_images, .int s_ways, .int s_victims, .int s_backs, v_order, .int s_ordered, .int s_hitNow, .int s_hitsNow, v_plainLine, v_plainDirty, .int s_plainHit, .int s_plainBack, .int s_fitsNow, .int s_someNow, .int s_everyNow, v_otherIn, .int s_askLeft, .int s_drawn])), (q_x, .inl (E.2.1 0, 609, .inl s_x))] sz (some (.int x)) [(q_this, .inr (6, [.int s_thrown, .int s_trouble, .int s_where, v_cache, v_read, v_tape, .int s_taped, .int s_size, .int s_spot, .int s_sort, .int s_place, .int s_number, .int s_fault, .int s_wrongAt, .long s_letters, v_v0, .ref q_x, v_past, v_kept, .int s_acts, .int s_images, .int s_ways, .int s_victims, .int s_backs, v_order, .int s_ordered, .int s_hitNow, .int s_hitsNow, v_plainLine, v_plainDirty, .int s_plainHit, .int s_plainBack, .int s_fitsNow, .int s_someNow, .int s_everyNow, v_otherIn, .int s_askLeft, .int s_drawn])), (q_x, .inl (E.2.1 0, 609, .inl s_x))] := by
  refine zEnter (by decide) (Nat.le_of_ble_eq_true rfl) ?_
  intro C hC hR
  change zC C E cX7_areSmall "PackedCacheModel" 4 _ at hC
  have B2 : ∀ (N : Nat), ∀ (b1 : Int32) (b2 : Int32) (b3 : Int32), fX7_areSmall_2 s_x  N b1 b2 b3 = some x → J C 0 0 [(q_this, .inr (6, [.int s_thrown, .int s_trouble, .int s_where, v_cache, v_read, v_tape, .int s_taped, .int s_size, .int s_spot, .int s_sort, .int s_place, .int s_number, .int s_fault, .int s_wrongAt, .long s_letters, v_v0, .ref q_x, v_past, v_kept, .int s_acts, .int s_images, .int s_ways, .int s_victims, .int s_backs, v_order, .int s_ordered, .int s_hitNow, .int s_hitsNow, v_plainLine, v_plainDirty, .int s_plainHit, .int s_plainBack, .int s_fitsNow, .int s_someNow, .int s_everyNow, v_otherIn, .int s_askLeft, .int s_drawn])), (q_x, .inl (E.2.1 0, 609, .inl s_x))] [(0, .ref q_this), (1, .int b1), (2, .int b2), (3, .int b3)] 2 [] := by
    intro  N
    induction N with
    | zero =>
      intro b1 b2 b3 hf
      rw [fX7_areSmall_2] at hf
      cases hf
    | succ m ih =>
      intro b1 b2 b3 hf
      rw [fX7_areSmall_2] at hf
      refine j_iload_n (q := 3) hC dX7_areSmall_2 rfl rfl 3 rfl ?_
      refine j_iload_n (q := 4) hC dX7_areSmall_3 rfl rfl 2 rfl ?_
      refine j_callS (q := 7) hC [.int b2] [.int b3] (fun x1 : Int32 => some (.int x1)) (fun x1 => []) (fun x1 => [(q_this, .inr (6, [.int s_thrown, .int s_trouble, .int s_where, v_cache, v_read, v_tape, .int s_taped, .int s_size, .int s_spot, .int s_sort, .int s_place, .int s_number, .int s_fault, .int s_wrongAt, .long s_letters, v_v0, .ref q_x, v_past, v_kept, .int s_acts, .int s_images, .int s_ways, .int s_victims, .int s_backs, v_order, .int s_ordered, .int s_hitNow, .int s_hitsNow, v_plainLine, v_plainDirty, .int s_plainHit, .int s_plainBack, .int s_fitsNow, .int s_someNow, .int s_everyNow, v_otherIn, .int s_askLeft, .int s_drawn])), (q_x, .inl (E.2.1 0, 609, .inl s_x))]) (fun x1 => [.int x1, .int b3]) [] [0, 1] hf (fun x1 hx => wX7_lanesOf E b2 x1  hx) zy_X7_lanesOf zw_1269 (by unfold zRm; decide) rfl rfl (fun _ => rfl) (N := 2) (by decide) (fun _ => ⟨rfl, rfl, rfl⟩) rfl (Nat.le_of_ble_eq_true rfl) dX7_areSmall_4 rfl rfl (fun _ => rfl) (fun x1 hf => ?_)
      refine j_icmp_ge (tgt := 32) (q := 10) hC dX7_areSmall_7 (by decide) rfl hf (fun _ hf => ?_) (fun _ hf => ?_)
      · refine j_iconst (q := 33) (v := 1) hC dX7_areSmall_32 rfl (by decide) ?_
        have hx := Option.some.inj hf
        exact j_zret hC hR rfl dX7_areSmall_33 (by rw [← hx]) rfl
      · refine j_iload_n (q := 11) hC dX7_areSmall_10 rfl rfl 2 rfl ?_
        refine j_aload_n (q := 12) hC dX7_areSmall_11 rfl rfl 0 rfl ?_
        refine j_iload_n (q := 13) hC dX7_areSmall_12 rfl rfl 1 rfl ?_
        refine j_iload_n (q := 14) hC dX7_areSmall_13 rfl rfl 2 rfl ?_
        refine j_iload_n (q := 15) hC dX7_areSmall_14 rfl rfl 3 rfl ?_
        refine j_callV (q := 18) hC [.int b1, .int b2, .int b3] [.int b2] (fun x2 : Int64 => some (.long x2)) (fun x2 => [(q_this, .inr (6, [.int s_thrown, .int s_trouble, .int s_where, v_cache, v_read, v_tape, .int s_taped, .int s_size, .int s_spot, .int s_sort, .int s_place, .int s_number, .int s_fault, .int s_wrongAt, .long s_letters, v_v0, .ref q_x, v_past, v_kept, .int s_acts, .int s_images, .int s_ways, .int s_victims, .int s_backs, v_order, .int s_ordered, .int s_hitNow, .int s_hitsNow, v_plainLine, v_plainDirty, .int s_plainHit, .int s_plainBack, .int s_fitsNow, .int s_someNow, .int s_everyNow, v_otherIn, .int s_askLeft, .int s_drawn])), (q_x, .inl (E.2.1 0, 609, .inl s_x))]) (fun x2 => [(q_this, .inr (6, [.int s_thrown, .int s_trouble, .int s_where, v_cache, v_read, v_tape, .int s_taped, .int s_size, .int s_spot, .int s_sort, .int s_place, .int s_number, .int s_fault, .int s_wrongAt, .long s_letters, v_v0, .ref q_x, v_past, v_kept, .int s_acts, .int s_images, .int s_ways, .int s_victims, .int s_backs, v_order, .int s_ordered, .int s_hitNow, .int s_hitsNow, v_plainLine, v_plainDirty, .int s_plainHit, .int s_plainBack, .int s_fitsNow, .int s_someNow, .int s_everyNow, v_otherIn, .int s_askLeft, .int s_drawn])), (q_x, .inl (E.2.1 0, 609, .inl s_x))]) (fun x2 => [.long x2, .int b2]) [0, 1] [] hf (fun x2 hx => wX7_differenceOf E q_this q_x s_thrown s_trouble s_where s_taped s_size s_spot s_sort s_place s_number s_fault s_wrongAt s_letters s_acts s_images s_ways s_victims s_backs s_ordered s_hitNow s_hitsNow s_plainHit s_plainBack s_fitsNow s_someNow s_everyNow s_askLeft s_drawn s_x (v_cache) (v_read) (v_tape) (v_v0) (v_past) (v_kept) (v_order) (v_plainLine) (v_plainDirty) (v_otherIn) b1 b2 b3 x2  hx) zy_X7_differenceOf zw_1275 (by unfold zRm; decide) rfl rfl (fun _ => rfl) (N := 2) (by decide) (fun _ => ⟨rfl, rfl, rfl⟩) rfl rfl rfl (Nat.le_of_ble_eq_true rfl) dX7_areSmall_15 rfl rfl (fun _ => rfl) (fun x2 hf => ?_)
        refine j_callS (q := 21) hC [.int b2, .long x2] [] (fun x3 : Int32 => some (.int x3)) (fun x3 => []) (fun x3 => [(q_this, .inr (6, [.int s_thrown, .int s_trouble, .int s_where, v_cache, v_read, v_tape, .int s_taped, .int s_size, .int s_spot, .int s_sort, .int s_place, .int s_number, .int s_fault, .int s_wrongAt, .long s_letters, v_v0, .ref q_x, v_past, v_kept, .int s_acts, .int s_images, .int s_ways, .int s_victims, .int s_backs, v_order, .int s_ordered, .int s_hitNow, .int s_hitsNow, v_plainLine, v_plainDirty, .int s_plainHit, .int s_plainBack, .int s_fitsNow, .int s_someNow, .int s_everyNow, v_otherIn, .int s_askLeft, .int s_drawn])), (q_x, .inl (E.2.1 0, 609, .inl s_x))]) (fun x3 => [.int x3]) [] [0, 1] hf (fun x3 hx => wX7_isSmall E b2 x2 x3  hx) zy_X7_isSmall zw_1283 (by unfold zRm; decide) rfl rfl (fun _ => rfl) (N := 2) (by decide) (fun _ => ⟨rfl, rfl, rfl⟩) rfl (Nat.le_of_ble_eq_true rfl) dX7_areSmall_18 rfl rfl (fun _ => rfl) (fun x3 hf => ?_)
        refine j_if_ne (tgt := 26) (q := 24) hC dX7_areSmall_21 (by decide) rfl hf (fun _ hf => ?_) (fun _ hf => ?_)
        · refine j_iinc (q := 29) (v := 1) hC (fun x4 => [(3, .int x4), (0, .ref q_this), (1, .int b1), (2, .int b2)]) dX7_areSmall_26 rfl 3 rfl (by decide) (by decide) (fun _ => rfl) hf (fun x4 hf => ?_)
          refine j_goto (tgt := 2) hC dX7_areSmall_29 (by decide) ?_
          refine j_sub (lv' := [(0, .ref q_this), (1, .int b1), (2, .int b2), (3, .int x4)]) [1, 2, 3, 0] rfl ?_
          exact ih b1 b2 x4 hf
        · refine j_iconst (q := 25) (v := 0) hC dX7_areSmall_24 rfl (by decide) ?_
          have hx := Option.some.inj hf
          exact j_zret hC hR rfl dX7_areSmall_25 (by rw [← hx]) rfl
  unfold fX7_areSmall at hf
  refine j_sub (lv' := [(0, .ref q_this), (1, .int a1), (2, .int a2)]) [0, 1, 2] rfl ?_
  refine j_iconst (q := 1) (v := 0) hC dX7_areSmall_0 rfl (by decide) ?_
  refine j_istore_n (q := 2) (lv' := [(3, .int 0), (0, .ref q_this), (1, .int a1), (2, .int a2)]) hC dX7_areSmall_1 rfl rfl (by decide) rfl ?_
  refine j_sub (lv' := [(0, .ref q_this), (1, .int a1), (2, .int a2), (3, .int 0)]) [1, 2, 3, 0] rfl ?_
  exact B2  zF a1 a2 0 hf
noncomputable def fX7_isFit (s_x : (Nat → Int32)) (a1 : Int32) (a2 : Int32) : Option (Int32) :=
  if a2 = 0 then ((fX7_isAll s_x a1 0).bind fun x1 =>
    zbl x1 (some x1))
    else (if a2 = 1 then ((fX7_wordOf s_x a1 0).bind fun x2 =>
    (fX7_isAll s_x a1 x2).bind fun x3 =>
    zbl x3 (some x3))
    else (if a2 = 7 then (some 1)
    else ((fX7_areSmall s_x a1 a2).bind fun x4 =>
    zbl x4 (some x4))))
set_option maxHeartbeats 4000000 in
set_option maxRecDepth 100000 in
theorem wX7_isFit (E : zE) (q_this : Nat) (q_x : Nat) (s_thrown : Int32) (s_trouble : Int32) (s_where : Int32) (s_taped : Int32) (s_size : Int32) (s_spot : Int32) (s_sort : Int32) (s_place : Int32) (s_number : Int32) (s_fault : Int32) (s_wrongAt : Int32) (s_letters : Int64) (s_acts : Int32) (s_images : Int32) (s_ways : Int32) (s_victims : Int32) (s_backs : Int32) (s_ordered : Int32) (s_hitNow : Int32) (s_hitsNow : Int32) (s_plainHit : Int32) (s_plainBack : Int32) (s_fitsNow : Int32) (s_someNow : Int32) (s_everyNow : Int32) (s_askLeft : Int32) (s_drawn : Int32) (s_x : (Nat → Int32)) (v_cache : Value) (v_read : Value) (v_tape : Value) (v_v0 : Value) (v_past : Value) (v_kept : Value) (v_order : Value) (v_plainLine : Value) (v_plainDirty : Value) (v_otherIn : Value) (a1 : Int32) (a2 : Int32) (x : Int32) (hf : fX7_isFit s_x a1 a2 = some x) (l : Launch) (sz : Nat) : zM l yX7_isFit cX7_isFit 3 (some .boolean) { frames := 6, cells := 0, slots := 0, locals := 141 } E [.ref q_this, .int a1, .int a2] [(q_this, .inr (6, [.int s_thrown, .int s_trouble, .int s_where, v_cache, v_read, v_tape, .int s_taped, .int s_size, .int s_spot, .int s_sort, .int s_place, .int s_number, .int s_fault, .int s_wrongAt, .long s_letters, v_v0, .ref q_x, v_past, v_kept, .int s_acts, .int s_images, .int s_ways, .int s_victims, .int s_backs, v_order, .int s_ordered, .int s_hitNow, .int s_hitsNow, v_plainLine, v_plainDirty, .int s_plainHit, .int s_plainBack, .int s_fitsNow, .int s_someNow, .int s_everyNow, v_otherIn, .int s_askLeft, .int s_drawn])), (q_x, .inl (E.2.1 0, 609, .inl s_x))] sz (some (.int x)) [(q_this, .inr (6, [.int s_thrown, .int s_trouble, .int s_where, v_cache, v_read, v_tape, .int s_taped, .int s_size, .int s_spot, .int s_sort, .int s_place, .int s_number, .int s_fault, .int s_wrongAt, .long s_letters, v_v0, .ref q_x, v_past, v_kept, .int s_acts, .int s_images, .int s_ways, .int s_victims, .int s_backs, v_order, .int s_ordered, .int s_hitNow, .int s_hitsNow, v_plainLine, v_plainDirty, .int s_plainHit, .int s_plainBack, .int s_fitsNow, .int s_someNow, .int s_everyNow, v_otherIn, .int s_askLeft, .int s_drawn])), (q_x, .inl (E.2.1 0, 609, .inl s_x))] := by
  refine zEnter (by decide) (Nat.le_of_ble_eq_true rfl) ?_
  intro C hC hR
  change zC C E cX7_isFit "PackedCacheModel" 3 _ at hC
  unfold fX7_isFit at hf
  refine j_sub (lv' := [(0, .ref q_this), (1, .int a1), (2, .int a2)]) [0, 1, 2] rfl ?_
  refine j_iload_n (q := 1) hC dX7_isFit_0 rfl rfl 2 rfl ?_
  by_cases c1_0 : a2 = 0
  · have hf := (zite_s hf).1 c1_0
    refine j_lookup (tgt := 38) (off := 37) hC dX7_isFit_1 (by decide) (by rw [c1_0]; try rfl) (by decide) ?_
    refine j_aload_n (q := 39) hC dX7_isFit_38 rfl rfl 0 rfl ?_
    refine j_iload_n (q := 40) hC dX7_isFit_39 rfl rfl 1 rfl ?_
    refine j_iconst (q := 41) (v := 0) hC dX7_isFit_40 rfl (by decide) ?_
    refine j_callV (q := 44) hC [.int a1, .int 0] [] (fun x1 : Int32 => some (.int x1)) (fun x1 => [(q_this, .inr (6, [.int s_thrown, .int s_trouble, .int s_where, v_cache, v_read, v_tape, .int s_taped, .int s_size, .int s_spot, .int s_sort, .int s_place, .int s_number, .int s_fault, .int s_wrongAt, .long s_letters, v_v0, .ref q_x, v_past, v_kept, .int s_acts, .int s_images, .int s_ways, .int s_victims, .int s_backs, v_order, .int s_ordered, .int s_hitNow, .int s_hitsNow, v_plainLine, v_plainDirty, .int s_plainHit, .int s_plainBack, .int s_fitsNow, .int s_someNow, .int s_everyNow, v_otherIn, .int s_askLeft, .int s_drawn])), (q_x, .inl (E.2.1 0, 609, .inl s_x))]) (fun x1 => [(q_this, .inr (6, [.int s_thrown, .int s_trouble, .int s_where, v_cache, v_read, v_tape, .int s_taped, .int s_size, .int s_spot, .int s_sort, .int s_place, .int s_number, .int s_fault, .int s_wrongAt, .long s_letters, v_v0, .ref q_x, v_past, v_kept, .int s_acts, .int s_images, .int s_ways, .int s_victims, .int s_backs, v_order, .int s_ordered, .int s_hitNow, .int s_hitsNow, v_plainLine, v_plainDirty, .int s_plainHit, .int s_plainBack, .int s_fitsNow, .int s_someNow, .int s_everyNow, v_otherIn, .int s_askLeft, .int s_drawn])), (q_x, .inl (E.2.1 0, 609, .inl s_x))]) (fun x1 => [.int x1]) [0, 1] [] hf (fun x1 hx => wX7_isAll E q_this q_x s_thrown s_trouble s_where s_taped s_size s_spot s_sort s_place s_number s_fault s_wrongAt s_letters s_acts s_images s_ways s_victims s_backs s_ordered s_hitNow s_hitsNow s_plainHit s_plainBack s_fitsNow s_someNow s_everyNow s_askLeft s_drawn s_x (v_cache) (v_read) (v_tape) (v_v0) (v_past) (v_kept) (v_order) (v_plainLine) (v_plainDirty) (v_otherIn) a1 0 x1  hx) zy_X7_isAll zw_1261 (by unfold zRm; decide) rfl rfl (fun _ => rfl) (N := 2) (by decide) (fun _ => ⟨rfl, rfl, rfl⟩) rfl rfl rfl (Nat.le_of_ble_eq_true rfl) dX7_isFit_41 rfl rfl (fun _ => rfl) (fun x1 hf => ?_)
    obtain ⟨hz, hf⟩ := zbl_s hf
    have hx := Option.some.inj hf
    exact j_zret hC hR (zbl_n hz) dX7_isFit_44 (by rw [← hx]) rfl
  · have hf := (zite_s hf).2 c1_0
    by_cases c1_1 : a2 = 1
    · have hf := (zite_s hf).1 c1_1
      refine j_lookup (tgt := 45) (off := 44) hC dX7_isFit_1 (by decide) (by rw [c1_1]; try rfl) (by decide) ?_
      refine j_aload_n (q := 46) hC dX7_isFit_45 rfl rfl 0 rfl ?_
      refine j_iload_n (q := 47) hC dX7_isFit_46 rfl rfl 1 rfl ?_
      refine j_aload_n (q := 48) hC dX7_isFit_47 rfl rfl 0 rfl ?_
      refine j_iload_n (q := 49) hC dX7_isFit_48 rfl rfl 1 rfl ?_
      refine j_iconst (q := 50) (v := 0) hC dX7_isFit_49 rfl (by decide) ?_
      refine j_callV (q := 53) hC [.int a1, .int 0] [.int a1, .ref q_this] (fun x2 : Int32 => some (.int x2)) (fun x2 => [(q_this, .inr (6, [.int s_thrown, .int s_trouble, .int s_where, v_cache, v_read, v_tape, .int s_taped, .int s_size, .int s_spot, .int s_sort, .int s_place, .int s_number, .int s_fault, .int s_wrongAt, .long s_letters, v_v0, .ref q_x, v_past, v_kept, .int s_acts, .int s_images, .int s_ways, .int s_victims, .int s_backs, v_order, .int s_ordered, .int s_hitNow, .int s_hitsNow, v_plainLine, v_plainDirty, .int s_plainHit, .int s_plainBack, .int s_fitsNow, .int s_someNow, .int s_everyNow, v_otherIn, .int s_askLeft, .int s_drawn])), (q_x, .inl (E.2.1 0, 609, .inl s_x))]) (fun x2 => [(q_this, .inr (6, [.int s_thrown, .int s_trouble, .int s_where, v_cache, v_read, v_tape, .int s_taped, .int s_size, .int s_spot, .int s_sort, .int s_place, .int s_number, .int s_fault, .int s_wrongAt, .long s_letters, v_v0, .ref q_x, v_past, v_kept, .int s_acts, .int s_images, .int s_ways, .int s_victims, .int s_backs, v_order, .int s_ordered, .int s_hitNow, .int s_hitsNow, v_plainLine, v_plainDirty, .int s_plainHit, .int s_plainBack, .int s_fitsNow, .int s_someNow, .int s_everyNow, v_otherIn, .int s_askLeft, .int s_drawn])), (q_x, .inl (E.2.1 0, 609, .inl s_x))]) (fun x2 => [.int x2, .int a1, .ref q_this]) [0, 1] [] hf (fun x2 hx => wX7_wordOf E q_this q_x s_thrown s_trouble s_where s_taped s_size s_spot s_sort s_place s_number s_fault s_wrongAt s_letters s_acts s_images s_ways s_victims s_backs s_ordered s_hitNow s_hitsNow s_plainHit s_plainBack s_fitsNow s_someNow s_everyNow s_askLeft s_drawn s_x (v_cache) (v_read) (v_tape) (v_v0) (v_past) (v_kept) (v_order) (v_plainLine) (v_plainDirty) (v_otherIn) a1 0 x2  hx) zy_X7_wordOf zw_1237 (by unfold zRm; decide) rfl rfl (fun _ => rfl) (N := 2) (by decide) (fun _ => ⟨rfl, rfl, rfl⟩) rfl rfl rfl (Nat.le_of_ble_eq_true rfl) dX7_isFit_50 rfl rfl (fun _ => rfl) (fun x2 hf => ?_)
      refine j_callV (q := 56) hC [.int a1, .int x2] [] (fun x3 : Int32 => some (.int x3)) (fun x3 => [(q_this, .inr (6, [.int s_thrown, .int s_trouble, .int s_where, v_cache, v_read, v_tape, .int s_taped, .int s_size, .int s_spot, .int s_sort, .int s_place, .int s_number, .int s_fault, .int s_wrongAt, .long s_letters, v_v0, .ref q_x, v_past, v_kept, .int s_acts, .int s_images, .int s_ways, .int s_victims, .int s_backs, v_order, .int s_ordered, .int s_hitNow, .int s_hitsNow, v_plainLine, v_plainDirty, .int s_plainHit, .int s_plainBack, .int s_fitsNow, .int s_someNow, .int s_everyNow, v_otherIn, .int s_askLeft, .int s_drawn])), (q_x, .inl (E.2.1 0, 609, .inl s_x))]) (fun x3 => [(q_this, .inr (6, [.int s_thrown, .int s_trouble, .int s_where, v_cache, v_read, v_tape, .int s_taped, .int s_size, .int s_spot, .int s_sort, .int s_place, .int s_number, .int s_fault, .int s_wrongAt, .long s_letters, v_v0, .ref q_x, v_past, v_kept, .int s_acts, .int s_images, .int s_ways, .int s_victims, .int s_backs, v_order, .int s_ordered, .int s_hitNow, .int s_hitsNow, v_plainLine, v_plainDirty, .int s_plainHit, .int s_plainBack, .int s_fitsNow, .int s_someNow, .int s_everyNow, v_otherIn, .int s_askLeft, .int s_drawn])), (q_x, .inl (E.2.1 0, 609, .inl s_x))]) (fun x3 => [.int x3]) [0, 1] [] hf (fun x3 hx => wX7_isAll E q_this q_x s_thrown s_trouble s_where s_taped s_size s_spot s_sort s_place s_number s_fault s_wrongAt s_letters s_acts s_images s_ways s_victims s_backs s_ordered s_hitNow s_hitsNow s_plainHit s_plainBack s_fitsNow s_someNow s_everyNow s_askLeft s_drawn s_x (v_cache) (v_read) (v_tape) (v_v0) (v_past) (v_kept) (v_order) (v_plainLine) (v_plainDirty) (v_otherIn) a1 x2 x3  hx) zy_X7_isAll zw_1261 (by unfold zRm; decide) rfl rfl (fun _ => rfl) (N := 2) (by decide) (fun _ => ⟨rfl, rfl, rfl⟩) rfl rfl rfl (Nat.le_of_ble_eq_true rfl) dX7_isFit_53 rfl rfl (fun _ => rfl) (fun x3 hf => ?_)
      obtain ⟨hz, hf⟩ := zbl_s hf
      have hx := Option.some.inj hf
      exact j_zret hC hR (zbl_n hz) dX7_isFit_56 (by rw [← hx]) rfl
    · have hf := (zite_s hf).2 c1_1
      by_cases c1_2 : a2 = 7
      · have hf := (zite_s hf).1 c1_2
        refine j_lookup (tgt := 36) (off := 35) hC dX7_isFit_1 (by decide) (by rw [c1_2]; try rfl) (by decide) ?_
        refine j_iconst (q := 37) (v := 1) hC dX7_isFit_36 rfl (by decide) ?_
        have hx := Option.some.inj hf
        exact j_zret hC hR rfl dX7_isFit_37 (by rw [← hx]) rfl
      · have hf := (zite_s hf).2 c1_2
        refine j_lookup (tgt := 57) (off := 56) hC dX7_isFit_1 (by decide) (by show Op.lookupswitch.offset [(0, 37), (1, 44), (7, 35)] 56 _ = _; rw [lv_osw c1_0 (by decide), lv_osw c1_1 (by decide), lv_osw c1_2 (by decide)]; try rfl) (by decide) ?_
        refine j_aload_n (q := 58) hC dX7_isFit_57 rfl rfl 0 rfl ?_
        refine j_iload_n (q := 59) hC dX7_isFit_58 rfl rfl 1 rfl ?_
        refine j_iload_n (q := 60) hC dX7_isFit_59 rfl rfl 2 rfl ?_
        refine j_callV (q := 63) hC [.int a1, .int a2] [] (fun x4 : Int32 => some (.int x4)) (fun x4 => [(q_this, .inr (6, [.int s_thrown, .int s_trouble, .int s_where, v_cache, v_read, v_tape, .int s_taped, .int s_size, .int s_spot, .int s_sort, .int s_place, .int s_number, .int s_fault, .int s_wrongAt, .long s_letters, v_v0, .ref q_x, v_past, v_kept, .int s_acts, .int s_images, .int s_ways, .int s_victims, .int s_backs, v_order, .int s_ordered, .int s_hitNow, .int s_hitsNow, v_plainLine, v_plainDirty, .int s_plainHit, .int s_plainBack, .int s_fitsNow, .int s_someNow, .int s_everyNow, v_otherIn, .int s_askLeft, .int s_drawn])), (q_x, .inl (E.2.1 0, 609, .inl s_x))]) (fun x4 => [(q_this, .inr (6, [.int s_thrown, .int s_trouble, .int s_where, v_cache, v_read, v_tape, .int s_taped, .int s_size, .int s_spot, .int s_sort, .int s_place, .int s_number, .int s_fault, .int s_wrongAt, .long s_letters, v_v0, .ref q_x, v_past, v_kept, .int s_acts, .int s_images, .int s_ways, .int s_victims, .int s_backs, v_order, .int s_ordered, .int s_hitNow, .int s_hitsNow, v_plainLine, v_plainDirty, .int s_plainHit, .int s_plainBack, .int s_fitsNow, .int s_someNow, .int s_everyNow, v_otherIn, .int s_askLeft, .int s_drawn])), (q_x, .inl (E.2.1 0, 609, .inl s_x))]) (fun x4 => [.int x4]) [0, 1] [] hf (fun x4 hx => wX7_areSmall E q_this q_x s_thrown s_trouble s_where s_taped s_size s_spot s_sort s_place s_number s_fault s_wrongAt s_letters s_acts s_images s_ways s_victims s_backs s_ordered s_hitNow s_hitsNow s_plainHit s_plainBack s_fitsNow s_someNow s_everyNow s_askLeft s_drawn s_x (v_cache) (v_read) (v_tape) (v_v0) (v_past) (v_kept) (v_order) (v_plainLine) (v_plainDirty) (v_otherIn) a1 a2 x4  hx) zy_X7_areSmall zw_1265 (by unfold zRm; decide) rfl rfl (fun _ => rfl) (N := 2) (by decide) (fun _ => ⟨rfl, rfl, rfl⟩) rfl rfl rfl (Nat.le_of_ble_eq_true rfl) dX7_isFit_60 rfl rfl (fun _ => rfl) (fun x4 hf => ?_)
        obtain ⟨hz, hf⟩ := zbl_s hf
        have hx := Option.some.inj hf
        exact j_zret hC hR (zbl_n hz) dX7_isFit_63 (by rw [← hx]) rfl
noncomputable def fX7_formOf_2 (s_x : (Nat → Int32))  : Nat → Int32 → Int32 → Option (Int32)
  | 0, _, _ => none
  | m + 1, b1, b2 =>
    (fX7_isFit s_x b1 b2).bind fun x1 =>
    if x1 = 0 then (zlet (b2 + 1) fun x2 =>
    fX7_formOf_2 s_x  m b1 x2)
    else (some b2)
noncomputable def fX7_formOf (s_x : (Nat → Int32)) (a1 : Int32) : Option (Int32) :=
  fX7_formOf_2 s_x  zF a1 0
set_option maxHeartbeats 4000000 in
set_option maxRecDepth 100000 in
theorem wX7_formOf (E : zE) (q_this : Nat) (q_x : Nat) (s_thrown : Int32) (s_trouble : Int32) (s_where : Int32) (s_taped : Int32) (s_size : Int32) (s_spot : Int32) (s_sort : Int32) (s_place : Int32) (s_number : Int32) (s_fault : Int32) (s_wrongAt : Int32) (s_letters : Int64) (s_acts : Int32) (s_images : Int32) (s_ways : Int32) (s_victims : Int32) (s_backs : Int32) (s_ordered : Int32) (s_hitNow : Int32) (s_hitsNow : Int32) (s_plainHit : Int32) (s_plainBack : Int32) (s_fitsNow : Int32) (s_someNow : Int32) (s_everyNow : Int32) (s_askLeft : Int32) (s_drawn : Int32) (s_x : (Nat → Int32)) (v_cache : Value) (v_read : Value) (v_tape : Value) (v_v0 : Value) (v_past : Value) (v_kept : Value) (v_order : Value) (v_plainLine : Value) (v_plainDirty : Value) (v_otherIn : Value) (a1 : Int32) (x : Int32) (hf : fX7_formOf s_x a1 = some x) (l : Launch) (sz : Nat) : zM l yX7_formOf cX7_formOf 3 (some .int) { frames := 7, cells := 0, slots := 0, locals := 163 } E [.ref q_this, .int a1] [(q_this, .inr (6, [.int s_thrown, .int s_trouble, .int s_where, v_cache, v_read, v_tape, .int s_taped, .int s_size, .int s_spot, .int s_sort, .int s_place, .int s_number, .int s_fault, .int s_wrongAt, .long s_letters, v_v0, .ref q_x, v_past, v_kept, .int s_acts, .int s_images, .int s_ways, .int s_victims, .int s_backs, v_order, .int s_ordered, .int s_hitNow, .int s_hitsNow, v_plainLine, v_plainDirty, .int s_plainHit, .int s_plainBack, .int s_fitsNow, .int s_someNow, .int s_everyNow, v_otherIn, .int s_askLeft, .int s_drawn])), (q_x, .inl (E.2.1 0, 609, .inl s_x))] sz (some (.int x)) [(q_this, .inr (6, [.int s_thrown, .int s_trouble, .int s_where, v_cache, v_read, v_tape, .int s_taped, .int s_size, .int s_spot, .int s_sort, .int s_place, .int s_number, .int s_fault, .int s_wrongAt, .long s_letters, v_v0, .ref q_x, v_past, v_kept, .int s_acts, .int s_images, .int s_ways, .int s_victims, .int s_backs, v_order, .int s_ordered, .int s_hitNow, .int s_hitsNow, v_plainLine, v_plainDirty, .int s_plainHit, .int s_plainBack, .int s_fitsNow, .int s_someNow, .int s_everyNow, v_otherIn, .int s_askLeft, .int s_drawn])), (q_x, .inl (E.2.1 0, 609, .inl s_x))] := by
  refine zEnter (by decide) (Nat.le_of_ble_eq_true rfl) ?_
  intro C hC hR
  change zC C E cX7_formOf "PackedCacheModel" 3 _ at hC
  have B2 : ∀ (N : Nat), ∀ (b1 : Int32) (b2 : Int32), fX7_formOf_2 s_x  N b1 b2 = some x → J C 0 0 [(q_this, .inr (6, [.int s_thrown, .int s_trouble, .int s_where, v_cache, v_read, v_tape, .int s_taped, .int s_size, .int s_spot, .int s_sort, .int s_place, .int s_number, .int s_fault, .int s_wrongAt, .long s_letters, v_v0, .ref q_x, v_past, v_kept, .int s_acts, .int s_images, .int s_ways, .int s_victims, .int s_backs, v_order, .int s_ordered, .int s_hitNow, .int s_hitsNow, v_plainLine, v_plainDirty, .int s_plainHit, .int s_plainBack, .int s_fitsNow, .int s_someNow, .int s_everyNow, v_otherIn, .int s_askLeft, .int s_drawn])), (q_x, .inl (E.2.1 0, 609, .inl s_x))] [(0, .ref q_this), (1, .int b1), (2, .int b2)] 2 [] := by
    intro  N
    induction N with
    | zero =>
      intro b1 b2 hf
      rw [fX7_formOf_2] at hf
      cases hf
    | succ m ih =>
      intro b1 b2 hf
      rw [fX7_formOf_2] at hf
      refine j_aload_n (q := 3) hC dX7_formOf_2 rfl rfl 0 rfl ?_
      refine j_iload_n (q := 4) hC dX7_formOf_3 rfl rfl 1 rfl ?_
      refine j_iload_n (q := 5) hC dX7_formOf_4 rfl rfl 2 rfl ?_
      refine j_callV (q := 8) hC [.int b1, .int b2] [] (fun x1 : Int32 => some (.int x1)) (fun x1 => [(q_this, .inr (6, [.int s_thrown, .int s_trouble, .int s_where, v_cache, v_read, v_tape, .int s_taped, .int s_size, .int s_spot, .int s_sort, .int s_place, .int s_number, .int s_fault, .int s_wrongAt, .long s_letters, v_v0, .ref q_x, v_past, v_kept, .int s_acts, .int s_images, .int s_ways, .int s_victims, .int s_backs, v_order, .int s_ordered, .int s_hitNow, .int s_hitsNow, v_plainLine, v_plainDirty, .int s_plainHit, .int s_plainBack, .int s_fitsNow, .int s_someNow, .int s_everyNow, v_otherIn, .int s_askLeft, .int s_drawn])), (q_x, .inl (E.2.1 0, 609, .inl s_x))]) (fun x1 => [(q_this, .inr (6, [.int s_thrown, .int s_trouble, .int s_where, v_cache, v_read, v_tape, .int s_taped, .int s_size, .int s_spot, .int s_sort, .int s_place, .int s_number, .int s_fault, .int s_wrongAt, .long s_letters, v_v0, .ref q_x, v_past, v_kept, .int s_acts, .int s_images, .int s_ways, .int s_victims, .int s_backs, v_order, .int s_ordered, .int s_hitNow, .int s_hitsNow, v_plainLine, v_plainDirty, .int s_plainHit, .int s_plainBack, .int s_fitsNow, .int s_someNow, .int s_everyNow, v_otherIn, .int s_askLeft, .int s_drawn])), (q_x, .inl (E.2.1 0, 609, .inl s_x))]) (fun x1 => [.int x1]) [0, 1] [] hf (fun x1 hx => wX7_isFit E q_this q_x s_thrown s_trouble s_where s_taped s_size s_spot s_sort s_place s_number s_fault s_wrongAt s_letters s_acts s_images s_ways s_victims s_backs s_ordered s_hitNow s_hitsNow s_plainHit s_plainBack s_fitsNow s_someNow s_everyNow s_askLeft s_drawn s_x (v_cache) (v_read) (v_tape) (v_v0) (v_past) (v_kept) (v_order) (v_plainLine) (v_plainDirty) (v_otherIn) b1 b2 x1  hx) zy_X7_isFit zw_1257 (by unfold zRm; decide) rfl rfl (fun _ => rfl) (N := 2) (by decide) (fun _ => ⟨rfl, rfl, rfl⟩) rfl rfl rfl (Nat.le_of_ble_eq_true rfl) dX7_formOf_5 rfl rfl (fun _ => rfl) (fun x1 hf => ?_)
      refine j_if_ne (tgt := 17) (q := 11) hC dX7_formOf_8 (by decide) rfl hf (fun _ hf => ?_) (fun _ hf => ?_)
      · refine j_iload_n (q := 18) hC dX7_formOf_17 rfl rfl 2 rfl ?_
        have hx := Option.some.inj hf
        exact j_iret hC hR dX7_formOf_18 (by rw [← hx]) rfl
      · refine j_iinc (q := 14) (v := 1) hC (fun x2 => [(2, .int x2), (0, .ref q_this), (1, .int b1)]) dX7_formOf_11 rfl 2 rfl (by decide) (by decide) (fun _ => rfl) hf (fun x2 hf => ?_)
        refine j_goto (tgt := 2) hC dX7_formOf_14 (by decide) ?_
        refine j_sub (lv' := [(0, .ref q_this), (1, .int b1), (2, .int x2)]) [1, 2, 0] rfl ?_
        exact ih b1 x2 hf
  unfold fX7_formOf at hf
  refine j_sub (lv' := [(0, .ref q_this), (1, .int a1)]) [0, 1] rfl ?_
  refine j_iconst (q := 1) (v := 0) hC dX7_formOf_0 rfl (by decide) ?_
  refine j_istore_n (q := 2) (lv' := [(2, .int 0), (0, .ref q_this), (1, .int a1)]) hC dX7_formOf_1 rfl rfl (by decide) rfl ?_
  refine j_sub (lv' := [(0, .ref q_this), (1, .int a1), (2, .int 0)]) [1, 2, 0] rfl ?_
  exact B2  zF a1 0 hf
noncomputable def fX7_segmentsBy (a0 : Int32) : Option (Int32) :=
  (fX7_bytesOf a0).bind fun x1 =>
    zlet (x1 + 3 : Int32) fun x2 =>
    zdiv x2 4 fun x3 =>
    some x3
set_option maxHeartbeats 4000000 in
set_option maxRecDepth 100000 in
theorem wX7_segmentsBy (E : zE) (a0 : Int32) (x : Int32) (hf : fX7_segmentsBy a0 = some x) (l : Launch) (sz : Nat) : zM l yX7_segmentsBy cX7_segmentsBy 1 (some .int) { frames := 1, cells := 0, slots := 0, locals := 20 } E [.int a0] [] sz (some (.int x)) [] := by
  refine zEnter (by decide) (Nat.le_of_ble_eq_true rfl) ?_
  intro C hC hR
  change zC C E cX7_segmentsBy "PackedCacheModel" 1 _ at hC
  unfold fX7_segmentsBy at hf
  refine j_sub (lv' := [(0, .int a0)]) [0] rfl ?_
  refine j_iload_n (q := 1) hC dX7_segmentsBy_0 rfl rfl 0 rfl ?_
  refine j_callS (q := 4) hC [.int a0] [] (fun x1 : Int32 => some (.int x1)) (fun x1 => []) (fun x1 => []) (fun x1 => [.int x1]) [] [] hf (fun x1 hx => wX7_bytesOf E a0 x1  hx) zy_X7_bytesOf zw_1302 (by unfold zRm; decide) rfl rfl (fun _ => rfl) (N := 0) (by decide) (fun _ => ⟨rfl, rfl, rfl⟩) rfl (Nat.le_of_ble_eq_true rfl) dX7_segmentsBy_1 rfl rfl (fun _ => rfl) (fun x1 hf => ?_)
  refine j_iconst (q := 5) (v := 3) hC dX7_segmentsBy_4 rfl (by decide) ?_
  refine j_iadd (q := 6) hC dX7_segmentsBy_5 rfl hf (fun x2 hf => ?_)
  refine j_iconst (q := 7) (v := 4) hC dX7_segmentsBy_6 rfl (by decide) ?_
  refine j_idiv (q := 8) hC dX7_segmentsBy_7 rfl hf (fun x3 hf => ?_)
  have hx := Option.some.inj hf
  exact j_iret hC hR dX7_segmentsBy_8 (by rw [← hx]) rfl
noncomputable def fX7_segmentsOf (s_x : (Nat → Int32)) (a1 : Int32) : Option (Int32) :=
  (fX7_formOf s_x a1).bind fun x1 =>
    (fX7_segmentsBy x1).bind fun x2 =>
    some x2
set_option maxHeartbeats 4000000 in
set_option maxRecDepth 100000 in
theorem wX7_segmentsOf (E : zE) (q_this : Nat) (q_x : Nat) (s_thrown : Int32) (s_trouble : Int32) (s_where : Int32) (s_taped : Int32) (s_size : Int32) (s_spot : Int32) (s_sort : Int32) (s_place : Int32) (s_number : Int32) (s_fault : Int32) (s_wrongAt : Int32) (s_letters : Int64) (s_acts : Int32) (s_images : Int32) (s_ways : Int32) (s_victims : Int32) (s_backs : Int32) (s_ordered : Int32) (s_hitNow : Int32) (s_hitsNow : Int32) (s_plainHit : Int32) (s_plainBack : Int32) (s_fitsNow : Int32) (s_someNow : Int32) (s_everyNow : Int32) (s_askLeft : Int32) (s_drawn : Int32) (s_x : (Nat → Int32)) (v_cache : Value) (v_read : Value) (v_tape : Value) (v_v0 : Value) (v_past : Value) (v_kept : Value) (v_order : Value) (v_plainLine : Value) (v_plainDirty : Value) (v_otherIn : Value) (a1 : Int32) (x : Int32) (hf : fX7_segmentsOf s_x a1 = some x) (l : Launch) (sz : Nat) : zM l yX7_segmentsOf cX7_segmentsOf 2 (some .int) { frames := 8, cells := 0, slots := 0, locals := 185 } E [.ref q_this, .int a1] [(q_this, .inr (6, [.int s_thrown, .int s_trouble, .int s_where, v_cache, v_read, v_tape, .int s_taped, .int s_size, .int s_spot, .int s_sort, .int s_place, .int s_number, .int s_fault, .int s_wrongAt, .long s_letters, v_v0, .ref q_x, v_past, v_kept, .int s_acts, .int s_images, .int s_ways, .int s_victims, .int s_backs, v_order, .int s_ordered, .int s_hitNow, .int s_hitsNow, v_plainLine, v_plainDirty, .int s_plainHit, .int s_plainBack, .int s_fitsNow, .int s_someNow, .int s_everyNow, v_otherIn, .int s_askLeft, .int s_drawn])), (q_x, .inl (E.2.1 0, 609, .inl s_x))] sz (some (.int x)) [(q_this, .inr (6, [.int s_thrown, .int s_trouble, .int s_where, v_cache, v_read, v_tape, .int s_taped, .int s_size, .int s_spot, .int s_sort, .int s_place, .int s_number, .int s_fault, .int s_wrongAt, .long s_letters, v_v0, .ref q_x, v_past, v_kept, .int s_acts, .int s_images, .int s_ways, .int s_victims, .int s_backs, v_order, .int s_ordered, .int s_hitNow, .int s_hitsNow, v_plainLine, v_plainDirty, .int s_plainHit, .int s_plainBack, .int s_fitsNow, .int s_someNow, .int s_everyNow, v_otherIn, .int s_askLeft, .int s_drawn])), (q_x, .inl (E.2.1 0, 609, .inl s_x))] := by
  refine zEnter (by decide) (Nat.le_of_ble_eq_true rfl) ?_
  intro C hC hR
  change zC C E cX7_segmentsOf "PackedCacheModel" 2 _ at hC
  unfold fX7_segmentsOf at hf
  refine j_sub (lv' := [(0, .ref q_this), (1, .int a1)]) [0, 1] rfl ?_
  refine j_aload_n (q := 1) hC dX7_segmentsOf_0 rfl rfl 0 rfl ?_
  refine j_iload_n (q := 2) hC dX7_segmentsOf_1 rfl rfl 1 rfl ?_
  refine j_callV (q := 5) hC [.int a1] [] (fun x1 : Int32 => some (.int x1)) (fun x1 => [(q_this, .inr (6, [.int s_thrown, .int s_trouble, .int s_where, v_cache, v_read, v_tape, .int s_taped, .int s_size, .int s_spot, .int s_sort, .int s_place, .int s_number, .int s_fault, .int s_wrongAt, .long s_letters, v_v0, .ref q_x, v_past, v_kept, .int s_acts, .int s_images, .int s_ways, .int s_victims, .int s_backs, v_order, .int s_ordered, .int s_hitNow, .int s_hitsNow, v_plainLine, v_plainDirty, .int s_plainHit, .int s_plainBack, .int s_fitsNow, .int s_someNow, .int s_everyNow, v_otherIn, .int s_askLeft, .int s_drawn])), (q_x, .inl (E.2.1 0, 609, .inl s_x))]) (fun x1 => [(q_this, .inr (6, [.int s_thrown, .int s_trouble, .int s_where, v_cache, v_read, v_tape, .int s_taped, .int s_size, .int s_spot, .int s_sort, .int s_place, .int s_number, .int s_fault, .int s_wrongAt, .long s_letters, v_v0, .ref q_x, v_past, v_kept, .int s_acts, .int s_images, .int s_ways, .int s_victims, .int s_backs, v_order, .int s_ordered, .int s_hitNow, .int s_hitsNow, v_plainLine, v_plainDirty, .int s_plainHit, .int s_plainBack, .int s_fitsNow, .int s_someNow, .int s_everyNow, v_otherIn, .int s_askLeft, .int s_drawn])), (q_x, .inl (E.2.1 0, 609, .inl s_x))]) (fun x1 => [.int x1]) [0, 1] [] hf (fun x1 hx => wX7_formOf E q_this q_x s_thrown s_trouble s_where s_taped s_size s_spot s_sort s_place s_number s_fault s_wrongAt s_letters s_acts s_images s_ways s_victims s_backs s_ordered s_hitNow s_hitsNow s_plainHit s_plainBack s_fitsNow s_someNow s_everyNow s_askLeft s_drawn s_x (v_cache) (v_read) (v_tape) (v_v0) (v_past) (v_kept) (v_order) (v_plainLine) (v_plainDirty) (v_otherIn) a1 x1  hx) zy_X7_formOf zw_1253 (by unfold zRm; decide) rfl rfl (fun _ => rfl) (N := 2) (by decide) (fun _ => ⟨rfl, rfl, rfl⟩) rfl rfl rfl (Nat.le_of_ble_eq_true rfl) dX7_segmentsOf_2 rfl rfl (fun _ => rfl) (fun x1 hf => ?_)
  refine j_callS (q := 8) hC [.int x1] [] (fun x2 : Int32 => some (.int x2)) (fun x2 => []) (fun x2 => [(q_this, .inr (6, [.int s_thrown, .int s_trouble, .int s_where, v_cache, v_read, v_tape, .int s_taped, .int s_size, .int s_spot, .int s_sort, .int s_place, .int s_number, .int s_fault, .int s_wrongAt, .long s_letters, v_v0, .ref q_x, v_past, v_kept, .int s_acts, .int s_images, .int s_ways, .int s_victims, .int s_backs, v_order, .int s_ordered, .int s_hitNow, .int s_hitsNow, v_plainLine, v_plainDirty, .int s_plainHit, .int s_plainBack, .int s_fitsNow, .int s_someNow, .int s_everyNow, v_otherIn, .int s_askLeft, .int s_drawn])), (q_x, .inl (E.2.1 0, 609, .inl s_x))]) (fun x2 => [.int x2]) [] [0, 1] hf (fun x2 hx => wX7_segmentsBy E x1 x2  hx) zy_X7_segmentsBy zw_1317 (by unfold zRm; decide) rfl rfl (fun _ => rfl) (N := 2) (by decide) (fun _ => ⟨rfl, rfl, rfl⟩) rfl (Nat.le_of_ble_eq_true rfl) dX7_segmentsOf_5 rfl rfl (fun _ => rfl) (fun x2 hf => ?_)
  have hx := Option.some.inj hf
  exact j_iret hC hR dX7_segmentsOf_8 (by rw [← hx]) rfl
noncomputable def fX7_setOf (s_cache_sets : Int32) (a1 : Int32) : Option (Int32) :=
  zrem a1 s_cache_sets fun x1 =>
    some x1
set_option maxHeartbeats 4000000 in
set_option maxRecDepth 100000 in
theorem wX7_setOf (E : zE) (q_this : Nat) (q_cache : Nat) (s_thrown : Int32) (s_trouble : Int32) (s_where : Int32) (s_taped : Int32) (s_size : Int32) (s_spot : Int32) (s_sort : Int32) (s_place : Int32) (s_number : Int32) (s_fault : Int32) (s_wrongAt : Int32) (s_letters : Int64) (s_acts : Int32) (s_images : Int32) (s_ways : Int32) (s_victims : Int32) (s_backs : Int32) (s_ordered : Int32) (s_hitNow : Int32) (s_hitsNow : Int32) (s_plainHit : Int32) (s_plainBack : Int32) (s_fitsNow : Int32) (s_someNow : Int32) (s_everyNow : Int32) (s_askLeft : Int32) (s_drawn : Int32) (s_cache_sets : Int32) (s_cache_ways : Int32) (s_cache_lines : Int32) (s_cache_told : Int32) (s_cache_steps : Int32) (s_cache_unsures : Int32) (s_cache_saws : Int32) (s_cache_hit : Int32) (s_cache_weighed : Int32) (v_read : Value) (v_tape : Value) (v_v0 : Value) (v_x : Value) (v_past : Value) (v_kept : Value) (v_order : Value) (v_plainLine : Value) (v_plainDirty : Value) (v_otherIn : Value) (v_cache_memory : Value) (v_cache_line : Value) (v_cache_at : Value) (v_cache_put : Value) (v_cache_unsure : Value) (v_cache_may : Value) (v_cache_saw : Value) (a1 : Int32) (x : Int32) (hf : fX7_setOf s_cache_sets a1 = some x) (l : Launch) (sz : Nat) : zM l yX7_setOf cX7_setOf 2 (some .int) { frames := 0, cells := 0, slots := 0, locals := 0 } E [.ref q_this, .int a1] [(q_this, .inr (6, [.int s_thrown, .int s_trouble, .int s_where, .ref q_cache, v_read, v_tape, .int s_taped, .int s_size, .int s_spot, .int s_sort, .int s_place, .int s_number, .int s_fault, .int s_wrongAt, .long s_letters, v_v0, v_x, v_past, v_kept, .int s_acts, .int s_images, .int s_ways, .int s_victims, .int s_backs, v_order, .int s_ordered, .int s_hitNow, .int s_hitsNow, v_plainLine, v_plainDirty, .int s_plainHit, .int s_plainBack, .int s_fitsNow, .int s_someNow, .int s_everyNow, v_otherIn, .int s_askLeft, .int s_drawn])), (q_cache, .inr (5, [.int s_cache_sets, .int s_cache_ways, .int s_cache_lines, .int s_cache_told, .int s_cache_steps, .int s_cache_unsures, .int s_cache_saws, .int s_cache_hit, .int s_cache_weighed, v_cache_memory, v_cache_line, v_cache_at, v_cache_put, v_cache_unsure, v_cache_may, v_cache_saw]))] sz (some (.int x)) [(q_this, .inr (6, [.int s_thrown, .int s_trouble, .int s_where, .ref q_cache, v_read, v_tape, .int s_taped, .int s_size, .int s_spot, .int s_sort, .int s_place, .int s_number, .int s_fault, .int s_wrongAt, .long s_letters, v_v0, v_x, v_past, v_kept, .int s_acts, .int s_images, .int s_ways, .int s_victims, .int s_backs, v_order, .int s_ordered, .int s_hitNow, .int s_hitsNow, v_plainLine, v_plainDirty, .int s_plainHit, .int s_plainBack, .int s_fitsNow, .int s_someNow, .int s_everyNow, v_otherIn, .int s_askLeft, .int s_drawn])), (q_cache, .inr (5, [.int s_cache_sets, .int s_cache_ways, .int s_cache_lines, .int s_cache_told, .int s_cache_steps, .int s_cache_unsures, .int s_cache_saws, .int s_cache_hit, .int s_cache_weighed, v_cache_memory, v_cache_line, v_cache_at, v_cache_put, v_cache_unsure, v_cache_may, v_cache_saw]))] := by
  refine zEnter (by decide) (Nat.le_of_ble_eq_true rfl) ?_
  intro C hC hR
  change zC C E cX7_setOf "PackedCacheModel" 2 _ at hC
  unfold fX7_setOf at hf
  refine j_sub (lv' := [(0, .ref q_this), (1, .int a1)]) [0, 1] rfl ?_
  refine j_iload_n (q := 1) hC dX7_setOf_0 rfl rfl 1 rfl ?_
  refine j_aload_n (q := 2) hC dX7_setOf_1 rfl rfl 0 rfl ?_
  refine j_get (q := 5) hC zcl_X7 0 3 zw_904 ⟨rfl, rfl, by decide⟩ rfl rfl dX7_setOf_2 rfl ?_
  refine j_getN (q := 8) hC zcl_X6 1 0 zn_1039 ⟨rfl, rfl, by decide⟩ rfl rfl dX7_setOf_5 rfl ?_
  refine j_irem (q := 9) hC dX7_setOf_8 rfl hf (fun x1 hf => ?_)
  have hx := Option.some.inj hf
  exact j_iret hC hR dX7_setOf_9 (by rw [← hx]) rfl
noncomputable def fX7_tagsIn_24 (s_cache_sets : Int32) (s_x : (Nat → Int32)) (K4 : Int32 → Int32 → Option (Int32)) (b3 : Int32) (t0 : Int32) (t1 : Int32) : Option (Int32) :=
  zlet (t1 + t0 : Int32) fun x1 =>
    zlet (b3 + s_cache_sets : Int32) fun x2 =>
    K4 x1 x2
noncomputable def fX7_tagsIn_4 (s_cache_sets : Int32) (s_x : (Nat → Int32))  : Nat → Int32 → Int32 → Option (Int32)
  | 0, _, _ => none
  | m + 1, b2, b3 =>
    if 32 ≤ b3 then (some b2)
    else ((fX7_isCachedNow s_x b3).bind fun x1 =>
    if x1 = 0 then (fX7_tagsIn_24 s_cache_sets s_x (fX7_tagsIn_4 s_cache_sets s_x  m) b3 0 b2)
    else (fX7_tagsIn_24 s_cache_sets s_x (fX7_tagsIn_4 s_cache_sets s_x  m) b3 1 b2))
noncomputable def fX7_tagsIn (s_cache_sets : Int32) (s_x : (Nat → Int32)) (a1 : Int32) : Option (Int32) :=
  fX7_tagsIn_4 s_cache_sets s_x  zF 0 a1
set_option maxHeartbeats 4000000 in
set_option maxRecDepth 100000 in
theorem wX7_tagsIn (E : zE) (q_this : Nat) (q_cache : Nat) (q_x : Nat) (s_thrown : Int32) (s_trouble : Int32) (s_where : Int32) (s_taped : Int32) (s_size : Int32) (s_spot : Int32) (s_sort : Int32) (s_place : Int32) (s_number : Int32) (s_fault : Int32) (s_wrongAt : Int32) (s_letters : Int64) (s_acts : Int32) (s_images : Int32) (s_ways : Int32) (s_victims : Int32) (s_backs : Int32) (s_ordered : Int32) (s_hitNow : Int32) (s_hitsNow : Int32) (s_plainHit : Int32) (s_plainBack : Int32) (s_fitsNow : Int32) (s_someNow : Int32) (s_everyNow : Int32) (s_askLeft : Int32) (s_drawn : Int32) (s_cache_sets : Int32) (s_cache_ways : Int32) (s_cache_lines : Int32) (s_cache_told : Int32) (s_cache_steps : Int32) (s_cache_unsures : Int32) (s_cache_saws : Int32) (s_cache_hit : Int32) (s_cache_weighed : Int32) (s_x : (Nat → Int32)) (v_read : Value) (v_tape : Value) (v_v0 : Value) (v_past : Value) (v_kept : Value) (v_order : Value) (v_plainLine : Value) (v_plainDirty : Value) (v_otherIn : Value) (v_cache_memory : Value) (v_cache_line : Value) (v_cache_at : Value) (v_cache_put : Value) (v_cache_unsure : Value) (v_cache_may : Value) (v_cache_saw : Value) (a1 : Int32) (x : Int32) (hf : fX7_tagsIn s_cache_sets s_x a1 = some x) (l : Launch) (sz : Nat) : zM l yX7_tagsIn cX7_tagsIn 4 (some .int) { frames := 1, cells := 0, slots := 0, locals := 21 } E [.ref q_this, .int a1] [(q_this, .inr (6, [.int s_thrown, .int s_trouble, .int s_where, .ref q_cache, v_read, v_tape, .int s_taped, .int s_size, .int s_spot, .int s_sort, .int s_place, .int s_number, .int s_fault, .int s_wrongAt, .long s_letters, v_v0, .ref q_x, v_past, v_kept, .int s_acts, .int s_images, .int s_ways, .int s_victims, .int s_backs, v_order, .int s_ordered, .int s_hitNow, .int s_hitsNow, v_plainLine, v_plainDirty, .int s_plainHit, .int s_plainBack, .int s_fitsNow, .int s_someNow, .int s_everyNow, v_otherIn, .int s_askLeft, .int s_drawn])), (q_cache, .inr (5, [.int s_cache_sets, .int s_cache_ways, .int s_cache_lines, .int s_cache_told, .int s_cache_steps, .int s_cache_unsures, .int s_cache_saws, .int s_cache_hit, .int s_cache_weighed, v_cache_memory, v_cache_line, v_cache_at, v_cache_put, v_cache_unsure, v_cache_may, v_cache_saw])), (q_x, .inl (E.2.1 0, 609, .inl s_x))] sz (some (.int x)) [(q_this, .inr (6, [.int s_thrown, .int s_trouble, .int s_where, .ref q_cache, v_read, v_tape, .int s_taped, .int s_size, .int s_spot, .int s_sort, .int s_place, .int s_number, .int s_fault, .int s_wrongAt, .long s_letters, v_v0, .ref q_x, v_past, v_kept, .int s_acts, .int s_images, .int s_ways, .int s_victims, .int s_backs, v_order, .int s_ordered, .int s_hitNow, .int s_hitsNow, v_plainLine, v_plainDirty, .int s_plainHit, .int s_plainBack, .int s_fitsNow, .int s_someNow, .int s_everyNow, v_otherIn, .int s_askLeft, .int s_drawn])), (q_cache, .inr (5, [.int s_cache_sets, .int s_cache_ways, .int s_cache_lines, .int s_cache_told, .int s_cache_steps, .int s_cache_unsures, .int s_cache_saws, .int s_cache_hit, .int s_cache_weighed, v_cache_memory, v_cache_line, v_cache_at, v_cache_put, v_cache_unsure, v_cache_may, v_cache_saw])), (q_x, .inl (E.2.1 0, 609, .inl s_x))] := by
  refine zEnter (by decide) (Nat.le_of_ble_eq_true rfl) ?_
  intro C hC hR
  change zC C E cX7_tagsIn "PackedCacheModel" 4 _ at hC
  have B24 : ∀ (K4 : Int32 → Int32 → Option (Int32)), (∀ (b2 : Int32) (b3 : Int32), K4 b2 b3 = some x → J C 0 0 [(q_this, .inr (6, [.int s_thrown, .int s_trouble, .int s_where, .ref q_cache, v_read, v_tape, .int s_taped, .int s_size, .int s_spot, .int s_sort, .int s_place, .int s_number, .int s_fault, .int s_wrongAt, .long s_letters, v_v0, .ref q_x, v_past, v_kept, .int s_acts, .int s_images, .int s_ways, .int s_victims, .int s_backs, v_order, .int s_ordered, .int s_hitNow, .int s_hitsNow, v_plainLine, v_plainDirty, .int s_plainHit, .int s_plainBack, .int s_fitsNow, .int s_someNow, .int s_everyNow, v_otherIn, .int s_askLeft, .int s_drawn])), (q_cache, .inr (5, [.int s_cache_sets, .int s_cache_ways, .int s_cache_lines, .int s_cache_told, .int s_cache_steps, .int s_cache_unsures, .int s_cache_saws, .int s_cache_hit, .int s_cache_weighed, v_cache_memory, v_cache_line, v_cache_at, v_cache_put, v_cache_unsure, v_cache_may, v_cache_saw])), (q_x, .inl (E.2.1 0, 609, .inl s_x))] [(0, .ref q_this), (2, .int b2), (3, .int b3)] 4 []) → ∀ (b3 : Int32) (t0 : Int32) (t1 : Int32), fX7_tagsIn_24 s_cache_sets s_x K4 b3 t0 t1 = some x → J C 0 0 [(q_this, .inr (6, [.int s_thrown, .int s_trouble, .int s_where, .ref q_cache, v_read, v_tape, .int s_taped, .int s_size, .int s_spot, .int s_sort, .int s_place, .int s_number, .int s_fault, .int s_wrongAt, .long s_letters, v_v0, .ref q_x, v_past, v_kept, .int s_acts, .int s_images, .int s_ways, .int s_victims, .int s_backs, v_order, .int s_ordered, .int s_hitNow, .int s_hitsNow, v_plainLine, v_plainDirty, .int s_plainHit, .int s_plainBack, .int s_fitsNow, .int s_someNow, .int s_everyNow, v_otherIn, .int s_askLeft, .int s_drawn])), (q_cache, .inr (5, [.int s_cache_sets, .int s_cache_ways, .int s_cache_lines, .int s_cache_told, .int s_cache_steps, .int s_cache_unsures, .int s_cache_saws, .int s_cache_hit, .int s_cache_weighed, v_cache_memory, v_cache_line, v_cache_at, v_cache_put, v_cache_unsure, v_cache_may, v_cache_saw])), (q_x, .inl (E.2.1 0, 609, .inl s_x))] [(0, .ref q_this), (3, .int b3)] 24 [.int t0, .int t1] := by
    intro K4 H4 b3 t0 t1 hf
    unfold fX7_tagsIn_24 at hf
    refine j_iadd (q := 25) hC dX7_tagsIn_24 rfl hf (fun x1 hf => ?_)
    refine j_istore_n (q := 26) (lv' := [(2, .int x1), (0, .ref q_this), (3, .int b3)]) hC dX7_tagsIn_25 rfl rfl (by decide) rfl ?_
    refine j_iload_n (q := 27) hC dX7_tagsIn_26 rfl rfl 2 rfl ?_
    refine j_aload_n (q := 28) hC dX7_tagsIn_27 rfl rfl 1 rfl ?_
    refine j_get (q := 31) hC zcl_X7 0 3 zw_904 ⟨rfl, rfl, by decide⟩ rfl rfl dX7_tagsIn_28 rfl ?_
    refine j_getN (q := 34) hC zcl_X6 1 0 zn_1039 ⟨rfl, rfl, by decide⟩ rfl rfl dX7_tagsIn_31 rfl ?_
    refine j_iadd (q := 35) hC dX7_tagsIn_34 rfl hf (fun x2 hf => ?_)
    refine j_istore_n (q := 36) (lv' := [(3, .int x2), (2, .int x1), (0, .ref q_this)]) hC dX7_tagsIn_35 rfl rfl (by decide) rfl ?_
    refine j_goto (tgt := 4) hC dX7_tagsIn_36 (by decide) ?_
    refine j_sub (lv' := [(0, .ref q_this), (2, .int x1), (3, .int x2)]) [2, 1, 0] rfl ?_
    exact H4 x1 x2 hf
  have B4 : ∀ (N : Nat), ∀ (b2 : Int32) (b3 : Int32), fX7_tagsIn_4 s_cache_sets s_x  N b2 b3 = some x → J C 0 0 [(q_this, .inr (6, [.int s_thrown, .int s_trouble, .int s_where, .ref q_cache, v_read, v_tape, .int s_taped, .int s_size, .int s_spot, .int s_sort, .int s_place, .int s_number, .int s_fault, .int s_wrongAt, .long s_letters, v_v0, .ref q_x, v_past, v_kept, .int s_acts, .int s_images, .int s_ways, .int s_victims, .int s_backs, v_order, .int s_ordered, .int s_hitNow, .int s_hitsNow, v_plainLine, v_plainDirty, .int s_plainHit, .int s_plainBack, .int s_fitsNow, .int s_someNow, .int s_everyNow, v_otherIn, .int s_askLeft, .int s_drawn])), (q_cache, .inr (5, [.int s_cache_sets, .int s_cache_ways, .int s_cache_lines, .int s_cache_told, .int s_cache_steps, .int s_cache_unsures, .int s_cache_saws, .int s_cache_hit, .int s_cache_weighed, v_cache_memory, v_cache_line, v_cache_at, v_cache_put, v_cache_unsure, v_cache_may, v_cache_saw])), (q_x, .inl (E.2.1 0, 609, .inl s_x))] [(0, .ref q_this), (2, .int b2), (3, .int b3)] 4 [] := by
    intro  N
    induction N with
    | zero =>
      intro b2 b3 hf
      rw [fX7_tagsIn_4] at hf
      cases hf
    | succ m ih =>
      intro b2 b3 hf
      rw [fX7_tagsIn_4] at hf
      refine j_iload_n (q := 5) hC dX7_tagsIn_4 rfl rfl 2 rfl ?_
      refine j_bipush (q := 7) (v := 32) hC dX7_tagsIn_5 rfl (by decide) ?_
      refine j_icmp_ge (tgt := 39) (q := 10) hC dX7_tagsIn_7 (by decide) rfl hf (fun _ hf => ?_) (fun _ hf => ?_)
      · refine j_iload_n (q := 40) hC dX7_tagsIn_39 rfl rfl 1 rfl ?_
        have hx := Option.some.inj hf
        exact j_iret hC hR dX7_tagsIn_40 (by rw [← hx]) rfl
      · refine j_iload_n (q := 11) hC dX7_tagsIn_10 rfl rfl 1 rfl ?_
        refine j_aload_n (q := 12) hC dX7_tagsIn_11 rfl rfl 0 rfl ?_
        refine j_iload_n (q := 13) hC dX7_tagsIn_12 rfl rfl 2 rfl ?_
        refine j_callV (q := 16) hC [.int b3] [.int b2] (fun x1 : Int32 => some (.int x1)) (fun x1 => [(q_this, .inr (6, [.int s_thrown, .int s_trouble, .int s_where, .ref q_cache, v_read, v_tape, .int s_taped, .int s_size, .int s_spot, .int s_sort, .int s_place, .int s_number, .int s_fault, .int s_wrongAt, .long s_letters, v_v0, .ref q_x, v_past, v_kept, .int s_acts, .int s_images, .int s_ways, .int s_victims, .int s_backs, v_order, .int s_ordered, .int s_hitNow, .int s_hitsNow, v_plainLine, v_plainDirty, .int s_plainHit, .int s_plainBack, .int s_fitsNow, .int s_someNow, .int s_everyNow, v_otherIn, .int s_askLeft, .int s_drawn])), (q_x, .inl (E.2.1 0, 609, .inl s_x))]) (fun x1 => [(q_this, .inr (6, [.int s_thrown, .int s_trouble, .int s_where, .ref q_cache, v_read, v_tape, .int s_taped, .int s_size, .int s_spot, .int s_sort, .int s_place, .int s_number, .int s_fault, .int s_wrongAt, .long s_letters, v_v0, .ref q_x, v_past, v_kept, .int s_acts, .int s_images, .int s_ways, .int s_victims, .int s_backs, v_order, .int s_ordered, .int s_hitNow, .int s_hitsNow, v_plainLine, v_plainDirty, .int s_plainHit, .int s_plainBack, .int s_fitsNow, .int s_someNow, .int s_everyNow, v_otherIn, .int s_askLeft, .int s_drawn])), (q_cache, .inr (5, [.int s_cache_sets, .int s_cache_ways, .int s_cache_lines, .int s_cache_told, .int s_cache_steps, .int s_cache_unsures, .int s_cache_saws, .int s_cache_hit, .int s_cache_weighed, v_cache_memory, v_cache_line, v_cache_at, v_cache_put, v_cache_unsure, v_cache_may, v_cache_saw])), (q_x, .inl (E.2.1 0, 609, .inl s_x))]) (fun x1 => [.int x1, .int b2]) [0, 2] [1] hf (fun x1 hx => wX7_isCachedNow E q_this q_x s_thrown s_trouble s_where s_taped s_size s_spot s_sort s_place s_number s_fault s_wrongAt s_letters s_acts s_images s_ways s_victims s_backs s_ordered s_hitNow s_hitsNow s_plainHit s_plainBack s_fitsNow s_someNow s_everyNow s_askLeft s_drawn s_x (.ref q_cache) (v_read) (v_tape) (v_v0) (v_past) (v_kept) (v_order) (v_plainLine) (v_plainDirty) (v_otherIn) b3 x1  hx) zy_X7_isCachedNow zw_1241 (by unfold zRm; decide) rfl rfl (fun _ => rfl) (N := 3) (by decide) (fun _ => ⟨rfl, rfl, rfl⟩) rfl rfl rfl (Nat.le_of_ble_eq_true rfl) dX7_tagsIn_13 rfl rfl (fun _ => rfl) (fun x1 hf => ?_)
        refine j_if_eq (tgt := 23) (q := 19) hC dX7_tagsIn_16 (by decide) rfl hf (fun _ hf => ?_) (fun _ hf => ?_)
        · refine j_iconst (q := 24) (v := 0) hC dX7_tagsIn_23 rfl (by decide) ?_
          refine j_sub (lv' := [(0, .ref q_this), (3, .int b3)]) [0, 2] rfl ?_
          exact B24 _ ih b3 0 b2 hf
        · refine j_iconst (q := 20) (v := 1) hC dX7_tagsIn_19 rfl (by decide) ?_
          refine j_goto (tgt := 24) hC dX7_tagsIn_20 (by decide) ?_
          refine j_sub (lv' := [(0, .ref q_this), (3, .int b3)]) [0, 2] rfl ?_
          exact B24 _ ih b3 1 b2 hf
  unfold fX7_tagsIn at hf
  refine j_sub (lv' := [(0, .ref q_this), (1, .int a1)]) [0, 1] rfl ?_
  refine j_iconst (q := 1) (v := 0) hC dX7_tagsIn_0 rfl (by decide) ?_
  refine j_istore_n (q := 2) (lv' := [(2, .int 0), (0, .ref q_this), (1, .int a1)]) hC dX7_tagsIn_1 rfl rfl (by decide) rfl ?_
  refine j_iload_n (q := 3) hC dX7_tagsIn_2 rfl rfl 2 rfl ?_
  refine j_istore_n (q := 4) (lv' := [(3, .int a1), (2, .int 0), (0, .ref q_this), (1, .int a1)]) hC dX7_tagsIn_3 rfl rfl (by decide) rfl ?_
  refine j_sub (lv' := [(0, .ref q_this), (2, .int 0), (3, .int a1)]) [2, 1, 0] rfl ?_
  exact B4  zF 0 a1 hf
noncomputable def fX7_takenIn_28 (s_cache_sets : Int32) (s_x : (Nat → Int32)) (K4 : Int32 → Int32 → Option (Int32)) (b3 : Int32) (t0 : Int32) (t1 : Int32) : Option (Int32) :=
  zlet (t1 + t0 : Int32) fun x1 =>
    zlet (b3 + s_cache_sets : Int32) fun x2 =>
    K4 x1 x2
noncomputable def fX7_takenIn_4 (s_cache_sets : Int32) (s_x : (Nat → Int32))  : Nat → Int32 → Int32 → Option (Int32)
  | 0, _, _ => none
  | m + 1, b2, b3 =>
    if 32 ≤ b3 then (some b2)
    else ((fX7_isCachedNow s_x b3).bind fun x1 =>
    if x1 = 0 then (fX7_takenIn_28 s_cache_sets s_x (fX7_takenIn_4 s_cache_sets s_x  m) b3 0 b2)
    else ((fX7_segmentsOf s_x b3).bind fun x2 =>
    fX7_takenIn_28 s_cache_sets s_x (fX7_takenIn_4 s_cache_sets s_x  m) b3 x2 b2))
noncomputable def fX7_takenIn (s_cache_sets : Int32) (s_x : (Nat → Int32)) (a1 : Int32) : Option (Int32) :=
  fX7_takenIn_4 s_cache_sets s_x  zF 0 a1
set_option maxHeartbeats 4000000 in
set_option maxRecDepth 100000 in
theorem wX7_takenIn (E : zE) (q_this : Nat) (q_cache : Nat) (q_x : Nat) (s_thrown : Int32) (s_trouble : Int32) (s_where : Int32) (s_taped : Int32) (s_size : Int32) (s_spot : Int32) (s_sort : Int32) (s_place : Int32) (s_number : Int32) (s_fault : Int32) (s_wrongAt : Int32) (s_letters : Int64) (s_acts : Int32) (s_images : Int32) (s_ways : Int32) (s_victims : Int32) (s_backs : Int32) (s_ordered : Int32) (s_hitNow : Int32) (s_hitsNow : Int32) (s_plainHit : Int32) (s_plainBack : Int32) (s_fitsNow : Int32) (s_someNow : Int32) (s_everyNow : Int32) (s_askLeft : Int32) (s_drawn : Int32) (s_cache_sets : Int32) (s_cache_ways : Int32) (s_cache_lines : Int32) (s_cache_told : Int32) (s_cache_steps : Int32) (s_cache_unsures : Int32) (s_cache_saws : Int32) (s_cache_hit : Int32) (s_cache_weighed : Int32) (s_x : (Nat → Int32)) (v_read : Value) (v_tape : Value) (v_v0 : Value) (v_past : Value) (v_kept : Value) (v_order : Value) (v_plainLine : Value) (v_plainDirty : Value) (v_otherIn : Value) (v_cache_memory : Value) (v_cache_line : Value) (v_cache_at : Value) (v_cache_put : Value) (v_cache_unsure : Value) (v_cache_may : Value) (v_cache_saw : Value) (a1 : Int32) (x : Int32) (hf : fX7_takenIn s_cache_sets s_x a1 = some x) (l : Launch) (sz : Nat) : zM l yX7_takenIn cX7_takenIn 4 (some .int) { frames := 9, cells := 0, slots := 0, locals := 206 } E [.ref q_this, .int a1] [(q_this, .inr (6, [.int s_thrown, .int s_trouble, .int s_where, .ref q_cache, v_read, v_tape, .int s_taped, .int s_size, .int s_spot, .int s_sort, .int s_place, .int s_number, .int s_fault, .int s_wrongAt, .long s_letters, v_v0, .ref q_x, v_past, v_kept, .int s_acts, .int s_images, .int s_ways, .int s_victims, .int s_backs, v_order, .int s_ordered, .int s_hitNow, .int s_hitsNow, v_plainLine, v_plainDirty, .int s_plainHit, .int s_plainBack, .int s_fitsNow, .int s_someNow, .int s_everyNow, v_otherIn, .int s_askLeft, .int s_drawn])), (q_cache, .inr (5, [.int s_cache_sets, .int s_cache_ways, .int s_cache_lines, .int s_cache_told, .int s_cache_steps, .int s_cache_unsures, .int s_cache_saws, .int s_cache_hit, .int s_cache_weighed, v_cache_memory, v_cache_line, v_cache_at, v_cache_put, v_cache_unsure, v_cache_may, v_cache_saw])), (q_x, .inl (E.2.1 0, 609, .inl s_x))] sz (some (.int x)) [(q_this, .inr (6, [.int s_thrown, .int s_trouble, .int s_where, .ref q_cache, v_read, v_tape, .int s_taped, .int s_size, .int s_spot, .int s_sort, .int s_place, .int s_number, .int s_fault, .int s_wrongAt, .long s_letters, v_v0, .ref q_x, v_past, v_kept, .int s_acts, .int s_images, .int s_ways, .int s_victims, .int s_backs, v_order, .int s_ordered, .int s_hitNow, .int s_hitsNow, v_plainLine, v_plainDirty, .int s_plainHit, .int s_plainBack, .int s_fitsNow, .int s_someNow, .int s_everyNow, v_otherIn, .int s_askLeft, .int s_drawn])), (q_cache, .inr (5, [.int s_cache_sets, .int s_cache_ways, .int s_cache_lines, .int s_cache_told, .int s_cache_steps, .int s_cache_unsures, .int s_cache_saws, .int s_cache_hit, .int s_cache_weighed, v_cache_memory, v_cache_line, v_cache_at, v_cache_put, v_cache_unsure, v_cache_may, v_cache_saw])), (q_x, .inl (E.2.1 0, 609, .inl s_x))] := by
  refine zEnter (by decide) (Nat.le_of_ble_eq_true rfl) ?_
  intro C hC hR
  change zC C E cX7_takenIn "PackedCacheModel" 4 _ at hC
  have B28 : ∀ (K4 : Int32 → Int32 → Option (Int32)), (∀ (b2 : Int32) (b3 : Int32), K4 b2 b3 = some x → J C 0 0 [(q_this, .inr (6, [.int s_thrown, .int s_trouble, .int s_where, .ref q_cache, v_read, v_tape, .int s_taped, .int s_size, .int s_spot, .int s_sort, .int s_place, .int s_number, .int s_fault, .int s_wrongAt, .long s_letters, v_v0, .ref q_x, v_past, v_kept, .int s_acts, .int s_images, .int s_ways, .int s_victims, .int s_backs, v_order, .int s_ordered, .int s_hitNow, .int s_hitsNow, v_plainLine, v_plainDirty, .int s_plainHit, .int s_plainBack, .int s_fitsNow, .int s_someNow, .int s_everyNow, v_otherIn, .int s_askLeft, .int s_drawn])), (q_cache, .inr (5, [.int s_cache_sets, .int s_cache_ways, .int s_cache_lines, .int s_cache_told, .int s_cache_steps, .int s_cache_unsures, .int s_cache_saws, .int s_cache_hit, .int s_cache_weighed, v_cache_memory, v_cache_line, v_cache_at, v_cache_put, v_cache_unsure, v_cache_may, v_cache_saw])), (q_x, .inl (E.2.1 0, 609, .inl s_x))] [(0, .ref q_this), (2, .int b2), (3, .int b3)] 4 []) → ∀ (b3 : Int32) (t0 : Int32) (t1 : Int32), fX7_takenIn_28 s_cache_sets s_x K4 b3 t0 t1 = some x → J C 0 0 [(q_this, .inr (6, [.int s_thrown, .int s_trouble, .int s_where, .ref q_cache, v_read, v_tape, .int s_taped, .int s_size, .int s_spot, .int s_sort, .int s_place, .int s_number, .int s_fault, .int s_wrongAt, .long s_letters, v_v0, .ref q_x, v_past, v_kept, .int s_acts, .int s_images, .int s_ways, .int s_victims, .int s_backs, v_order, .int s_ordered, .int s_hitNow, .int s_hitsNow, v_plainLine, v_plainDirty, .int s_plainHit, .int s_plainBack, .int s_fitsNow, .int s_someNow, .int s_everyNow, v_otherIn, .int s_askLeft, .int s_drawn])), (q_cache, .inr (5, [.int s_cache_sets, .int s_cache_ways, .int s_cache_lines, .int s_cache_told, .int s_cache_steps, .int s_cache_unsures, .int s_cache_saws, .int s_cache_hit, .int s_cache_weighed, v_cache_memory, v_cache_line, v_cache_at, v_cache_put, v_cache_unsure, v_cache_may, v_cache_saw])), (q_x, .inl (E.2.1 0, 609, .inl s_x))] [(0, .ref q_this), (3, .int b3)] 28 [.int t0, .int t1] := by
    intro K4 H4 b3 t0 t1 hf
    unfold fX7_takenIn_28 at hf
    refine j_iadd (q := 29) hC dX7_takenIn_28 rfl hf (fun x1 hf => ?_)
    refine j_istore_n (q := 30) (lv' := [(2, .int x1), (0, .ref q_this), (3, .int b3)]) hC dX7_takenIn_29 rfl rfl (by decide) rfl ?_
    refine j_iload_n (q := 31) hC dX7_takenIn_30 rfl rfl 2 rfl ?_
    refine j_aload_n (q := 32) hC dX7_takenIn_31 rfl rfl 1 rfl ?_
    refine j_get (q := 35) hC zcl_X7 0 3 zw_904 ⟨rfl, rfl, by decide⟩ rfl rfl dX7_takenIn_32 rfl ?_
    refine j_getN (q := 38) hC zcl_X6 1 0 zn_1039 ⟨rfl, rfl, by decide⟩ rfl rfl dX7_takenIn_35 rfl ?_
    refine j_iadd (q := 39) hC dX7_takenIn_38 rfl hf (fun x2 hf => ?_)
    refine j_istore_n (q := 40) (lv' := [(3, .int x2), (2, .int x1), (0, .ref q_this)]) hC dX7_takenIn_39 rfl rfl (by decide) rfl ?_
    refine j_goto (tgt := 4) hC dX7_takenIn_40 (by decide) ?_
    refine j_sub (lv' := [(0, .ref q_this), (2, .int x1), (3, .int x2)]) [2, 1, 0] rfl ?_
    exact H4 x1 x2 hf
  have B4 : ∀ (N : Nat), ∀ (b2 : Int32) (b3 : Int32), fX7_takenIn_4 s_cache_sets s_x  N b2 b3 = some x → J C 0 0 [(q_this, .inr (6, [.int s_thrown, .int s_trouble, .int s_where, .ref q_cache, v_read, v_tape, .int s_taped, .int s_size, .int s_spot, .int s_sort, .int s_place, .int s_number, .int s_fault, .int s_wrongAt, .long s_letters, v_v0, .ref q_x, v_past, v_kept, .int s_acts, .int s_images, .int s_ways, .int s_victims, .int s_backs, v_order, .int s_ordered, .int s_hitNow, .int s_hitsNow, v_plainLine, v_plainDirty, .int s_plainHit, .int s_plainBack, .int s_fitsNow, .int s_someNow, .int s_everyNow, v_otherIn, .int s_askLeft, .int s_drawn])), (q_cache, .inr (5, [.int s_cache_sets, .int s_cache_ways, .int s_cache_lines, .int s_cache_told, .int s_cache_steps, .int s_cache_unsures, .int s_cache_saws, .int s_cache_hit, .int s_cache_weighed, v_cache_memory, v_cache_line, v_cache_at, v_cache_put, v_cache_unsure, v_cache_may, v_cache_saw])), (q_x, .inl (E.2.1 0, 609, .inl s_x))] [(0, .ref q_this), (2, .int b2), (3, .int b3)] 4 [] := by
    intro  N
    induction N with
    | zero =>
      intro b2 b3 hf
      rw [fX7_takenIn_4] at hf
      cases hf
    | succ m ih =>
      intro b2 b3 hf
      rw [fX7_takenIn_4] at hf
      refine j_iload_n (q := 5) hC dX7_takenIn_4 rfl rfl 2 rfl ?_
      refine j_bipush (q := 7) (v := 32) hC dX7_takenIn_5 rfl (by decide) ?_
      refine j_icmp_ge (tgt := 43) (q := 10) hC dX7_takenIn_7 (by decide) rfl hf (fun _ hf => ?_) (fun _ hf => ?_)
      · refine j_iload_n (q := 44) hC dX7_takenIn_43 rfl rfl 1 rfl ?_
        have hx := Option.some.inj hf
        exact j_iret hC hR dX7_takenIn_44 (by rw [← hx]) rfl
      · refine j_iload_n (q := 11) hC dX7_takenIn_10 rfl rfl 1 rfl ?_
        refine j_aload_n (q := 12) hC dX7_takenIn_11 rfl rfl 0 rfl ?_
        refine j_iload_n (q := 13) hC dX7_takenIn_12 rfl rfl 2 rfl ?_
        refine j_callV (q := 16) hC [.int b3] [.int b2] (fun x1 : Int32 => some (.int x1)) (fun x1 => [(q_this, .inr (6, [.int s_thrown, .int s_trouble, .int s_where, .ref q_cache, v_read, v_tape, .int s_taped, .int s_size, .int s_spot, .int s_sort, .int s_place, .int s_number, .int s_fault, .int s_wrongAt, .long s_letters, v_v0, .ref q_x, v_past, v_kept, .int s_acts, .int s_images, .int s_ways, .int s_victims, .int s_backs, v_order, .int s_ordered, .int s_hitNow, .int s_hitsNow, v_plainLine, v_plainDirty, .int s_plainHit, .int s_plainBack, .int s_fitsNow, .int s_someNow, .int s_everyNow, v_otherIn, .int s_askLeft, .int s_drawn])), (q_x, .inl (E.2.1 0, 609, .inl s_x))]) (fun x1 => [(q_this, .inr (6, [.int s_thrown, .int s_trouble, .int s_where, .ref q_cache, v_read, v_tape, .int s_taped, .int s_size, .int s_spot, .int s_sort, .int s_place, .int s_number, .int s_fault, .int s_wrongAt, .long s_letters, v_v0, .ref q_x, v_past, v_kept, .int s_acts, .int s_images, .int s_ways, .int s_victims, .int s_backs, v_order, .int s_ordered, .int s_hitNow, .int s_hitsNow, v_plainLine, v_plainDirty, .int s_plainHit, .int s_plainBack, .int s_fitsNow, .int s_someNow, .int s_everyNow, v_otherIn, .int s_askLeft, .int s_drawn])), (q_cache, .inr (5, [.int s_cache_sets, .int s_cache_ways, .int s_cache_lines, .int s_cache_told, .int s_cache_steps, .int s_cache_unsures, .int s_cache_saws, .int s_cache_hit, .int s_cache_weighed, v_cache_memory, v_cache_line, v_cache_at, v_cache_put, v_cache_unsure, v_cache_may, v_cache_saw])), (q_x, .inl (E.2.1 0, 609, .inl s_x))]) (fun x1 => [.int x1, .int b2]) [0, 2] [1] hf (fun x1 hx => wX7_isCachedNow E q_this q_x s_thrown s_trouble s_where s_taped s_size s_spot s_sort s_place s_number s_fault s_wrongAt s_letters s_acts s_images s_ways s_victims s_backs s_ordered s_hitNow s_hitsNow s_plainHit s_plainBack s_fitsNow s_someNow s_everyNow s_askLeft s_drawn s_x (.ref q_cache) (v_read) (v_tape) (v_v0) (v_past) (v_kept) (v_order) (v_plainLine) (v_plainDirty) (v_otherIn) b3 x1  hx) zy_X7_isCachedNow zw_1241 (by unfold zRm; decide) rfl rfl (fun _ => rfl) (N := 3) (by decide) (fun _ => ⟨rfl, rfl, rfl⟩) rfl rfl rfl (Nat.le_of_ble_eq_true rfl) dX7_takenIn_13 rfl rfl (fun _ => rfl) (fun x1 hf => ?_)
        refine j_if_eq (tgt := 27) (q := 19) hC dX7_takenIn_16 (by decide) rfl hf (fun _ hf => ?_) (fun _ hf => ?_)
        · refine j_iconst (q := 28) (v := 0) hC dX7_takenIn_27 rfl (by decide) ?_
          refine j_sub (lv' := [(0, .ref q_this), (3, .int b3)]) [0, 2] rfl ?_
          exact B28 _ ih b3 0 b2 hf
        · refine j_aload_n (q := 20) hC dX7_takenIn_19 rfl rfl 0 rfl ?_
          refine j_iload_n (q := 21) hC dX7_takenIn_20 rfl rfl 2 rfl ?_
          refine j_callV (q := 24) hC [.int b3] [.int b2] (fun x2 : Int32 => some (.int x2)) (fun x2 => [(q_this, .inr (6, [.int s_thrown, .int s_trouble, .int s_where, .ref q_cache, v_read, v_tape, .int s_taped, .int s_size, .int s_spot, .int s_sort, .int s_place, .int s_number, .int s_fault, .int s_wrongAt, .long s_letters, v_v0, .ref q_x, v_past, v_kept, .int s_acts, .int s_images, .int s_ways, .int s_victims, .int s_backs, v_order, .int s_ordered, .int s_hitNow, .int s_hitsNow, v_plainLine, v_plainDirty, .int s_plainHit, .int s_plainBack, .int s_fitsNow, .int s_someNow, .int s_everyNow, v_otherIn, .int s_askLeft, .int s_drawn])), (q_x, .inl (E.2.1 0, 609, .inl s_x))]) (fun x2 => [(q_this, .inr (6, [.int s_thrown, .int s_trouble, .int s_where, .ref q_cache, v_read, v_tape, .int s_taped, .int s_size, .int s_spot, .int s_sort, .int s_place, .int s_number, .int s_fault, .int s_wrongAt, .long s_letters, v_v0, .ref q_x, v_past, v_kept, .int s_acts, .int s_images, .int s_ways, .int s_victims, .int s_backs, v_order, .int s_ordered, .int s_hitNow, .int s_hitsNow, v_plainLine, v_plainDirty, .int s_plainHit, .int s_plainBack, .int s_fitsNow, .int s_someNow, .int s_everyNow, v_otherIn, .int s_askLeft, .int s_drawn])), (q_cache, .inr (5, [.int s_cache_sets, .int s_cache_ways, .int s_cache_lines, .int s_cache_told, .int s_cache_steps, .int s_cache_unsures, .int s_cache_saws, .int s_cache_hit, .int s_cache_weighed, v_cache_memory, v_cache_line, v_cache_at, v_cache_put, v_cache_unsure, v_cache_may, v_cache_saw])), (q_x, .inl (E.2.1 0, 609, .inl s_x))]) (fun x2 => [.int x2, .int b2]) [0, 2] [1] hf (fun x2 hx => wX7_segmentsOf E q_this q_x s_thrown s_trouble s_where s_taped s_size s_spot s_sort s_place s_number s_fault s_wrongAt s_letters s_acts s_images s_ways s_victims s_backs s_ordered s_hitNow s_hitsNow s_plainHit s_plainBack s_fitsNow s_someNow s_everyNow s_askLeft s_drawn s_x (.ref q_cache) (v_read) (v_tape) (v_v0) (v_past) (v_kept) (v_order) (v_plainLine) (v_plainDirty) (v_otherIn) b3 x2  hx) zy_X7_segmentsOf zw_1313 (by unfold zRm; decide) rfl rfl (fun _ => rfl) (N := 3) (by decide) (fun _ => ⟨rfl, rfl, rfl⟩) rfl rfl rfl (Nat.le_of_ble_eq_true rfl) dX7_takenIn_21 rfl rfl (fun _ => rfl) (fun x2 hf => ?_)
          refine j_goto (tgt := 28) hC dX7_takenIn_24 (by decide) ?_
          refine j_sub (lv' := [(0, .ref q_this), (3, .int b3)]) [0, 2] rfl ?_
          exact B28 _ ih b3 x2 b2 hf
  unfold fX7_takenIn at hf
  refine j_sub (lv' := [(0, .ref q_this), (1, .int a1)]) [0, 1] rfl ?_
  refine j_iconst (q := 1) (v := 0) hC dX7_takenIn_0 rfl (by decide) ?_
  refine j_istore_n (q := 2) (lv' := [(2, .int 0), (0, .ref q_this), (1, .int a1)]) hC dX7_takenIn_1 rfl rfl (by decide) rfl ?_
  refine j_iload_n (q := 3) hC dX7_takenIn_2 rfl rfl 2 rfl ?_
  refine j_istore_n (q := 4) (lv' := [(3, .int a1), (2, .int 0), (0, .ref q_this), (1, .int a1)]) hC dX7_takenIn_3 rfl rfl (by decide) rfl ?_
  refine j_sub (lv' := [(0, .ref q_this), (2, .int 0), (3, .int a1)]) [2, 1, 0] rfl ?_
  exact B4  zF 0 a1 hf
