noncomputable def fX3_runSteps_4 (s_sets : Int32) (s_ways : Int32) (s_weighed : Int32) (s_plain : Int32) (s_a1_steps : Int32) (s_a1_stepSpot : (Nat → Int32)) (s_a1_stepWord : (Nat → Int32))  : Nat → Int32 → Int32 → Int32 → Int32 → Int32 → Int32 → (Nat → Int32) → (Nat → Int32) → (Nat → Int32) → (Nat → Int32) → (Nat → Int32) → (Nat → Int32) → Option (Int32 × Int32 × Int32 × Int32 × Int32 × (Nat → Int32) × (Nat → Int32) × (Nat → Int32) × (Nat → Int32) × (Nat → Int32) × (Nat → Int32))
  | 0, _, _, _, _, _, _, _, _, _, _, _, _ => none
  | m + 1, b2, b3, s_clock, s_hits, s_victims, s_backs, s_dirty, s_last, s_memory, s_shape, s_used, s_words =>
    if s_a1_steps ≤ b3 then (some (b2, s_clock, s_hits, s_victims, s_backs, s_dirty, s_last, s_memory, s_shape, s_used, s_words))
    else (zald s_a1_stepSpot 16 b3 fun x1 =>
    zald s_a1_stepWord 16 b3 fun x2 =>
    (fX3_use s_sets s_ways s_weighed s_plain s_clock s_hits s_victims s_backs s_dirty s_last s_memory s_shape s_used s_words x1 x2).bind fun x3 =>
    if x3.1 = 0 then (zlet (b3 + 1) fun x4 =>
    fX3_runSteps_4 s_sets s_ways s_weighed s_plain s_a1_steps s_a1_stepSpot s_a1_stepWord  m b2 x4 x3.2.1 x3.2.2.1 x3.2.2.2.1 x3.2.2.2.2.1 x3.2.2.2.2.2.1 x3.2.2.2.2.2.2.1 x3.2.2.2.2.2.2.2.1 x3.2.2.2.2.2.2.2.2.1 x3.2.2.2.2.2.2.2.2.2.1 x3.2.2.2.2.2.2.2.2.2.2)
    else (zlet (1 <<< (b3 &&& 31) : Int32) fun x5 =>
    zlet (b2 ||| x5 : Int32) fun x6 =>
    zlet (b3 + 1) fun x7 =>
    fX3_runSteps_4 s_sets s_ways s_weighed s_plain s_a1_steps s_a1_stepSpot s_a1_stepWord  m x6 x7 x3.2.1 x3.2.2.1 x3.2.2.2.1 x3.2.2.2.2.1 x3.2.2.2.2.2.1 x3.2.2.2.2.2.2.1 x3.2.2.2.2.2.2.2.1 x3.2.2.2.2.2.2.2.2.1 x3.2.2.2.2.2.2.2.2.2.1 x3.2.2.2.2.2.2.2.2.2.2))
noncomputable def fX3_runSteps (s_sets : Int32) (s_ways : Int32) (s_weighed : Int32) (s_plain : Int32) (s_clock : Int32) (s_hits : Int32) (s_victims : Int32) (s_backs : Int32) (s_a1_steps : Int32) (s_a1_stepSpot : (Nat → Int32)) (s_a1_stepWord : (Nat → Int32)) (s_dirty : (Nat → Int32)) (s_last : (Nat → Int32)) (s_memory : (Nat → Int32)) (s_shape : (Nat → Int32)) (s_used : (Nat → Int32)) (s_words : (Nat → Int32)) : Option (Int32 × Int32 × Int32 × Int32 × Int32 × (Nat → Int32) × (Nat → Int32) × (Nat → Int32) × (Nat → Int32) × (Nat → Int32) × (Nat → Int32)) :=
  fX3_runSteps_4 s_sets s_ways s_weighed s_plain s_a1_steps s_a1_stepSpot s_a1_stepWord  zF 0 0 s_clock s_hits s_victims s_backs s_dirty s_last s_memory s_shape s_used s_words
set_option maxHeartbeats 4000000 in
set_option maxRecDepth 100000 in
theorem wX3_runSteps (E : zE) (q_this : Nat) (q_a1 : Nat) (q_a1_stepSpot : Nat) (q_a1_stepWord : Nat) (q_dirty : Nat) (q_last : Nat) (q_memory : Nat) (q_shape : Nat) (q_used : Nat) (q_words : Nat) (s_sets : Int32) (s_ways : Int32) (s_weighed : Int32) (s_plain : Int32) (s_clock : Int32) (s_hits : Int32) (s_victims : Int32) (s_backs : Int32) (s_a1_sets : Int32) (s_a1_ways : Int32) (s_a1_weighed : Int32) (s_a1_linesTold : Int32) (s_a1_steps : Int32) (s_a1_unsure : Int32) (s_a1_seen : Int32) (s_a1_fitsKnown : Int32) (s_a1_fitBits : Int32) (s_a1_stepSpot : (Nat → Int32)) (s_a1_stepWord : (Nat → Int32)) (s_dirty : (Nat → Int32)) (s_last : (Nat → Int32)) (s_memory : (Nat → Int32)) (s_shape : (Nat → Int32)) (s_used : (Nat → Int32)) (s_words : (Nat → Int32)) (v_a1_toldAlready : Value) (v_a1_memory : Value) (v_a1_unsureSpot : Value) (v_a1_unsureWord : Value) (v_a1_seenStep : Value) (v_a1_seenHit : Value) (x : Int32 × Int32 × Int32 × Int32 × Int32 × (Nat → Int32) × (Nat → Int32) × (Nat → Int32) × (Nat → Int32) × (Nat → Int32) × (Nat → Int32)) (hf : fX3_runSteps s_sets s_ways s_weighed s_plain s_clock s_hits s_victims s_backs s_a1_steps s_a1_stepSpot s_a1_stepWord s_dirty s_last s_memory s_shape s_used s_words = some x) (l : Launch) (sz : Nat) : zM l yX3_runSteps cX3_runSteps 4 (some .int) { frames := 5, cells := 0, slots := 0, locals := 118 } E [.ref q_this, .ref q_a1] [(q_this, .inr (2, [.int s_sets, .int s_ways, .int s_weighed, .int s_plain, .ref q_memory, .ref q_words, .ref q_used, .ref q_last, .ref q_shape, .ref q_dirty, .int s_clock, .int s_hits, .int s_victims, .int s_backs])), (q_a1, .inr (1, [.int s_a1_sets, .int s_a1_ways, .int s_a1_weighed, .int s_a1_linesTold, v_a1_toldAlready, v_a1_memory, .int s_a1_steps, .ref q_a1_stepSpot, .ref q_a1_stepWord, .int s_a1_unsure, v_a1_unsureSpot, v_a1_unsureWord, .int s_a1_seen, v_a1_seenStep, v_a1_seenHit, .int s_a1_fitsKnown, .int s_a1_fitBits])), (q_a1_stepSpot, .inl (E.2.1 0, 16, .inl s_a1_stepSpot)), (q_a1_stepWord, .inl (E.2.1 0, 16, .inl s_a1_stepWord)), (q_dirty, .inl (E.2.1 0, 32, .inl s_dirty)), (q_last, .inl (E.2.1 0, 32, .inl s_last)), (q_memory, .inl (E.2.1 0, 256, .inl s_memory)), (q_shape, .inl (E.2.1 0, 32, .inl s_shape)), (q_used, .inl (E.2.1 0, 32, .inl s_used)), (q_words, .inl (E.2.1 0, 256, .inl s_words))] sz (some (.int x.1)) [(q_this, .inr (2, [.int s_sets, .int s_ways, .int s_weighed, .int s_plain, .ref q_memory, .ref q_words, .ref q_used, .ref q_last, .ref q_shape, .ref q_dirty, .int x.2.1, .int x.2.2.1, .int x.2.2.2.1, .int x.2.2.2.2.1])), (q_a1, .inr (1, [.int s_a1_sets, .int s_a1_ways, .int s_a1_weighed, .int s_a1_linesTold, v_a1_toldAlready, v_a1_memory, .int s_a1_steps, .ref q_a1_stepSpot, .ref q_a1_stepWord, .int s_a1_unsure, v_a1_unsureSpot, v_a1_unsureWord, .int s_a1_seen, v_a1_seenStep, v_a1_seenHit, .int s_a1_fitsKnown, .int s_a1_fitBits])), (q_a1_stepSpot, .inl (E.2.1 0, 16, .inl s_a1_stepSpot)), (q_a1_stepWord, .inl (E.2.1 0, 16, .inl s_a1_stepWord)), (q_dirty, .inl (E.2.1 0, 32, .inl x.2.2.2.2.2.1)), (q_last, .inl (E.2.1 0, 32, .inl x.2.2.2.2.2.2.1)), (q_memory, .inl (E.2.1 0, 256, .inl x.2.2.2.2.2.2.2.1)), (q_shape, .inl (E.2.1 0, 32, .inl x.2.2.2.2.2.2.2.2.1)), (q_used, .inl (E.2.1 0, 32, .inl x.2.2.2.2.2.2.2.2.2.1)), (q_words, .inl (E.2.1 0, 256, .inl x.2.2.2.2.2.2.2.2.2.2))] := by
  refine zEnter (by decide) (Nat.le_of_ble_eq_true rfl) ?_
  intro C hC hR
  change zC C E cX3_runSteps "PackedCache$Store" 4 _ at hC
  have B4 : ∀ (N : Nat), ∀ (b2 : Int32) (b3 : Int32) (s_clock : Int32) (s_hits : Int32) (s_victims : Int32) (s_backs : Int32) (s_dirty : (Nat → Int32)) (s_last : (Nat → Int32)) (s_memory : (Nat → Int32)) (s_shape : (Nat → Int32)) (s_used : (Nat → Int32)) (s_words : (Nat → Int32)), fX3_runSteps_4 s_sets s_ways s_weighed s_plain s_a1_steps s_a1_stepSpot s_a1_stepWord  N b2 b3 s_clock s_hits s_victims s_backs s_dirty s_last s_memory s_shape s_used s_words = some x → J C 0 0 [(q_this, .inr (2, [.int s_sets, .int s_ways, .int s_weighed, .int s_plain, .ref q_memory, .ref q_words, .ref q_used, .ref q_last, .ref q_shape, .ref q_dirty, .int s_clock, .int s_hits, .int s_victims, .int s_backs])), (q_a1, .inr (1, [.int s_a1_sets, .int s_a1_ways, .int s_a1_weighed, .int s_a1_linesTold, v_a1_toldAlready, v_a1_memory, .int s_a1_steps, .ref q_a1_stepSpot, .ref q_a1_stepWord, .int s_a1_unsure, v_a1_unsureSpot, v_a1_unsureWord, .int s_a1_seen, v_a1_seenStep, v_a1_seenHit, .int s_a1_fitsKnown, .int s_a1_fitBits])), (q_a1_stepSpot, .inl (E.2.1 0, 16, .inl s_a1_stepSpot)), (q_a1_stepWord, .inl (E.2.1 0, 16, .inl s_a1_stepWord)), (q_dirty, .inl (E.2.1 0, 32, .inl s_dirty)), (q_last, .inl (E.2.1 0, 32, .inl s_last)), (q_memory, .inl (E.2.1 0, 256, .inl s_memory)), (q_shape, .inl (E.2.1 0, 32, .inl s_shape)), (q_used, .inl (E.2.1 0, 32, .inl s_used)), (q_words, .inl (E.2.1 0, 256, .inl s_words))] [(0, .ref q_this), (1, .ref q_a1), (2, .int b2), (3, .int b3)] 4 [] := by
    intro  N
    induction N with
    | zero =>
      intro b2 b3 s_clock s_hits s_victims s_backs s_dirty s_last s_memory s_shape s_used s_words hf
      rw [fX3_runSteps_4] at hf
      cases hf
    | succ m ih =>
      intro b2 b3 s_clock s_hits s_victims s_backs s_dirty s_last s_memory s_shape s_used s_words hf
      rw [fX3_runSteps_4] at hf
      refine j_iload_n (q := 5) hC dX3_runSteps_4 rfl rfl 3 rfl ?_
      refine j_aload_n (q := 6) hC dX3_runSteps_5 rfl rfl 1 rfl ?_
      refine j_getN (q := 9) hC zcl_X1 1 6 zn_56 ⟨rfl, rfl, by decide⟩ rfl rfl dX3_runSteps_6 rfl ?_
      refine j_icmp_ge (tgt := 43) (q := 12) hC dX3_runSteps_9 (by decide) rfl hf (fun _ hf => ?_) (fun _ hf => ?_)
      · refine j_iload_n (q := 44) hC dX3_runSteps_43 rfl rfl 2 rfl ?_
        have hx := Option.some.inj hf
        exact j_iret hC hR dX3_runSteps_44 (by rw [← hx]) (by rw [← hx])
      · refine j_aload_n (q := 13) hC dX3_runSteps_12 rfl rfl 0 rfl ?_
        refine j_aload_n (q := 14) hC dX3_runSteps_13 rfl rfl 1 rfl ?_
        refine j_getN (q := 17) hC zcl_X1 1 7 zn_59 ⟨rfl, rfl, by decide⟩ rfl rfl dX3_runSteps_14 rfl ?_
        refine j_iload_n (q := 18) hC dX3_runSteps_17 rfl rfl 3 rfl ?_
        refine j_iald (q := 19) hC 2 rfl dX3_runSteps_18 rfl hf (fun x1 hf => ?_)
        refine j_aload_n (q := 20) hC dX3_runSteps_19 rfl rfl 1 rfl ?_
        refine j_getN (q := 23) hC zcl_X1 1 8 zn_62 ⟨rfl, rfl, by decide⟩ rfl rfl dX3_runSteps_20 rfl ?_
        refine j_iload_n (q := 24) hC dX3_runSteps_23 rfl rfl 3 rfl ?_
        refine j_iald (q := 25) hC 3 rfl dX3_runSteps_24 rfl hf (fun x2 hf => ?_)
        refine j_callV (q := 28) hC [.int x1, .int x2] [] (fun x3 : Int32 × Int32 × Int32 × Int32 × Int32 × (Nat → Int32) × (Nat → Int32) × (Nat → Int32) × (Nat → Int32) × (Nat → Int32) × (Nat → Int32) => some (.int x3.1)) (fun x3 => [(q_this, .inr (2, [.int s_sets, .int s_ways, .int s_weighed, .int s_plain, .ref q_memory, .ref q_words, .ref q_used, .ref q_last, .ref q_shape, .ref q_dirty, .int x3.2.1, .int x3.2.2.1, .int x3.2.2.2.1, .int x3.2.2.2.2.1])), (q_dirty, .inl (E.2.1 0, 32, .inl x3.2.2.2.2.2.1)), (q_last, .inl (E.2.1 0, 32, .inl x3.2.2.2.2.2.2.1)), (q_memory, .inl (E.2.1 0, 256, .inl x3.2.2.2.2.2.2.2.1)), (q_shape, .inl (E.2.1 0, 32, .inl x3.2.2.2.2.2.2.2.2.1)), (q_used, .inl (E.2.1 0, 32, .inl x3.2.2.2.2.2.2.2.2.2.1)), (q_words, .inl (E.2.1 0, 256, .inl x3.2.2.2.2.2.2.2.2.2.2))]) (fun x3 => [(q_this, .inr (2, [.int s_sets, .int s_ways, .int s_weighed, .int s_plain, .ref q_memory, .ref q_words, .ref q_used, .ref q_last, .ref q_shape, .ref q_dirty, .int x3.2.1, .int x3.2.2.1, .int x3.2.2.2.1, .int x3.2.2.2.2.1])), (q_a1, .inr (1, [.int s_a1_sets, .int s_a1_ways, .int s_a1_weighed, .int s_a1_linesTold, v_a1_toldAlready, v_a1_memory, .int s_a1_steps, .ref q_a1_stepSpot, .ref q_a1_stepWord, .int s_a1_unsure, v_a1_unsureSpot, v_a1_unsureWord, .int s_a1_seen, v_a1_seenStep, v_a1_seenHit, .int s_a1_fitsKnown, .int s_a1_fitBits])), (q_a1_stepSpot, .inl (E.2.1 0, 16, .inl s_a1_stepSpot)), (q_a1_stepWord, .inl (E.2.1 0, 16, .inl s_a1_stepWord)), (q_dirty, .inl (E.2.1 0, 32, .inl x3.2.2.2.2.2.1)), (q_last, .inl (E.2.1 0, 32, .inl x3.2.2.2.2.2.2.1)), (q_memory, .inl (E.2.1 0, 256, .inl x3.2.2.2.2.2.2.2.1)), (q_shape, .inl (E.2.1 0, 32, .inl x3.2.2.2.2.2.2.2.2.1)), (q_used, .inl (E.2.1 0, 32, .inl x3.2.2.2.2.2.2.2.2.2.1)), (q_words, .inl (E.2.1 0, 256, .inl x3.2.2.2.2.2.2.2.2.2.2))]) (fun x3 => [.int x3.1]) [0, 4, 5, 6, 7, 8, 9] [1, 2, 3] hf (fun x3 hx => wX3_use E q_this q_dirty q_last q_memory q_shape q_used q_words s_sets s_ways s_weighed s_plain s_clock s_hits s_victims s_backs s_dirty s_last s_memory s_shape s_used s_words x1 x2 x3  hx) zy_X3_use zw_675 (by unfold zRm; decide) rfl rfl (fun _ => rfl) (N := 10) (by decide) (fun _ => ⟨rfl, rfl, rfl⟩) rfl rfl rfl (Nat.le_of_ble_eq_true rfl) dX3_runSteps_25 rfl rfl (fun _ => rfl) (fun x3 hf => ?_)
        refine j_if_eq (tgt := 37) (q := 31) hC dX3_runSteps_28 (by decide) rfl hf (fun _ hf => ?_) (fun _ hf => ?_)
        · refine j_iinc (q := 40) (v := 1) hC (fun x4 => [(3, .int x4), (0, .ref q_this), (1, .ref q_a1), (2, .int b2)]) dX3_runSteps_37 rfl 3 rfl (by decide) (by decide) (fun _ => rfl) hf (fun x4 hf => ?_)
          refine j_goto (tgt := 4) hC dX3_runSteps_40 (by decide) ?_
          refine j_sub (lv' := [(0, .ref q_this), (1, .ref q_a1), (2, .int b2), (3, .int x4)]) [1, 2, 3, 0] rfl ?_
          exact ih b2 x4 x3.2.1 x3.2.2.1 x3.2.2.2.1 x3.2.2.2.2.1 x3.2.2.2.2.2.1 x3.2.2.2.2.2.2.1 x3.2.2.2.2.2.2.2.1 x3.2.2.2.2.2.2.2.2.1 x3.2.2.2.2.2.2.2.2.2.1 x3.2.2.2.2.2.2.2.2.2.2 hf
        · refine j_iload_n (q := 32) hC dX3_runSteps_31 rfl rfl 2 rfl ?_
          refine j_iconst (q := 33) (v := 1) hC dX3_runSteps_32 rfl (by decide) ?_
          refine j_iload_n (q := 34) hC dX3_runSteps_33 rfl rfl 3 rfl ?_
          refine j_ishl (q := 35) hC dX3_runSteps_34 rfl hf (fun x5 hf => ?_)
          refine j_ior (q := 36) hC dX3_runSteps_35 rfl hf (fun x6 hf => ?_)
          refine j_istore_n (q := 37) (lv' := [(2, .int x6), (0, .ref q_this), (1, .ref q_a1), (3, .int b3)]) hC dX3_runSteps_36 rfl rfl (by decide) rfl ?_
          refine j_iinc (q := 40) (v := 1) hC (fun x7 => [(3, .int x7), (2, .int x6), (0, .ref q_this), (1, .ref q_a1)]) dX3_runSteps_37 rfl 3 rfl (by decide) (by decide) (fun _ => rfl) hf (fun x7 hf => ?_)
          refine j_goto (tgt := 4) hC dX3_runSteps_40 (by decide) ?_
          refine j_sub (lv' := [(0, .ref q_this), (1, .ref q_a1), (2, .int x6), (3, .int x7)]) [2, 3, 1, 0] rfl ?_
          exact ih x6 x7 x3.2.1 x3.2.2.1 x3.2.2.2.1 x3.2.2.2.2.1 x3.2.2.2.2.2.1 x3.2.2.2.2.2.2.1 x3.2.2.2.2.2.2.2.1 x3.2.2.2.2.2.2.2.2.1 x3.2.2.2.2.2.2.2.2.2.1 x3.2.2.2.2.2.2.2.2.2.2 hf
  unfold fX3_runSteps at hf
  refine j_sub (lv' := [(0, .ref q_this), (1, .ref q_a1)]) [0, 1] rfl ?_
  refine j_iconst (q := 1) (v := 0) hC dX3_runSteps_0 rfl (by decide) ?_
  refine j_istore_n (q := 2) (lv' := [(2, .int 0), (0, .ref q_this), (1, .ref q_a1)]) hC dX3_runSteps_1 rfl rfl (by decide) rfl ?_
  refine j_iconst (q := 3) (v := 0) hC dX3_runSteps_2 rfl (by decide) ?_
  refine j_istore_n (q := 4) (lv' := [(3, .int 0), (2, .int 0), (0, .ref q_this), (1, .ref q_a1)]) hC dX3_runSteps_3 rfl rfl (by decide) rfl ?_
  refine j_sub (lv' := [(0, .ref q_this), (1, .ref q_a1), (2, .int 0), (3, .int 0)]) [2, 3, 1, 0] rfl ?_
  exact B4  zF 0 0 s_clock s_hits s_victims s_backs s_dirty s_last s_memory s_shape s_used s_words hf
noncomputable def fX3_perform_24 (s_sets : Int32) (s_ways : Int32) (s_weighed : Int32) (s_plain : Int32)  : Nat → Int32 → Int32 → Int32 → Int32 → Int32 → (Nat → Int32) → (Nat → Int32) → (Nat → Int32) → (Nat → Int32) → (Nat → Int32) → (Nat → Int32) → Option (Int32 × Int32 × Int32 × Int32 × (Nat → Int32) × (Nat → Int32) × (Nat → Int32) × (Nat → Int32) × (Nat → Int32) × (Nat → Int32))
  | 0, _, _, _, _, _, _, _, _, _, _, _ => none
  | m + 1, b4, s_clock, s_hits, s_victims, s_backs, s_dirty, s_last, s_memory, s_shape, s_used, s_words =>
    if 32 ≤ b4 then (some (s_clock, s_hits, s_victims, s_backs, s_dirty, s_last, s_memory, s_shape, s_used, s_words))
    else ((fX3_writeBack s_backs s_dirty s_memory s_words b4).bind fun x1 =>
    zlet (b4 + 1) fun x2 =>
    fX3_perform_24 s_sets s_ways s_weighed s_plain  m x2 s_clock s_hits s_victims x1.1 x1.2.1 s_last x1.2.2 s_shape s_used s_words)
noncomputable def fX3_perform (s_sets : Int32) (s_ways : Int32) (s_weighed : Int32) (s_plain : Int32) (s_clock : Int32) (s_hits : Int32) (s_victims : Int32) (s_backs : Int32) (s_dirty : (Nat → Int32)) (s_last : (Nat → Int32)) (s_memory : (Nat → Int32)) (s_shape : (Nat → Int32)) (s_used : (Nat → Int32)) (s_words : (Nat → Int32)) (a1 : Int32) (a2 : Int32) (a3 : Int32) : Option (Int32 × Int32 × Int32 × Int32 × (Nat → Int32) × (Nat → Int32) × (Nat → Int32) × (Nat → Int32) × (Nat → Int32) × (Nat → Int32)) :=
  if a1 = 2 then (zdiv a2 8 fun x2 =>
    (fX3_forgetLine s_backs s_dirty s_memory s_used s_words x2).bind fun x3 =>
    some (s_clock, s_hits, s_victims, x3.1, x3.2.1, s_last, x3.2.2.1, s_shape, x3.2.2.2, s_words))
    else (if a1 = 3 then (fX3_perform_24 s_sets s_ways s_weighed s_plain  zF 0 s_clock s_hits s_victims s_backs s_dirty s_last s_memory s_shape s_used s_words)
    else ((fX3_use s_sets s_ways s_weighed s_plain s_clock s_hits s_victims s_backs s_dirty s_last s_memory s_shape s_used s_words a2 a3).bind fun x1 =>
    some (x1.2.1, x1.2.2.1, x1.2.2.2.1, x1.2.2.2.2.1, x1.2.2.2.2.2.1, x1.2.2.2.2.2.2.1, x1.2.2.2.2.2.2.2.1, x1.2.2.2.2.2.2.2.2.1, x1.2.2.2.2.2.2.2.2.2.1, x1.2.2.2.2.2.2.2.2.2.2)))
set_option maxHeartbeats 4000000 in
set_option maxRecDepth 100000 in
theorem wX3_perform (E : zE) (q_this : Nat) (q_dirty : Nat) (q_last : Nat) (q_memory : Nat) (q_shape : Nat) (q_used : Nat) (q_words : Nat) (s_sets : Int32) (s_ways : Int32) (s_weighed : Int32) (s_plain : Int32) (s_clock : Int32) (s_hits : Int32) (s_victims : Int32) (s_backs : Int32) (s_dirty : (Nat → Int32)) (s_last : (Nat → Int32)) (s_memory : (Nat → Int32)) (s_shape : (Nat → Int32)) (s_used : (Nat → Int32)) (s_words : (Nat → Int32)) (a1 : Int32) (a2 : Int32) (a3 : Int32) (x : Int32 × Int32 × Int32 × Int32 × (Nat → Int32) × (Nat → Int32) × (Nat → Int32) × (Nat → Int32) × (Nat → Int32) × (Nat → Int32)) (hf : fX3_perform s_sets s_ways s_weighed s_plain s_clock s_hits s_victims s_backs s_dirty s_last s_memory s_shape s_used s_words a1 a2 a3 = some x) (l : Launch) (sz : Nat) : zM l yX3_perform cX3_perform 5 none { frames := 5, cells := 0, slots := 0, locals := 118 } E [.ref q_this, .int a1, .int a2, .int a3] [(q_this, .inr (2, [.int s_sets, .int s_ways, .int s_weighed, .int s_plain, .ref q_memory, .ref q_words, .ref q_used, .ref q_last, .ref q_shape, .ref q_dirty, .int s_clock, .int s_hits, .int s_victims, .int s_backs])), (q_dirty, .inl (E.2.1 0, 32, .inl s_dirty)), (q_last, .inl (E.2.1 0, 32, .inl s_last)), (q_memory, .inl (E.2.1 0, 256, .inl s_memory)), (q_shape, .inl (E.2.1 0, 32, .inl s_shape)), (q_used, .inl (E.2.1 0, 32, .inl s_used)), (q_words, .inl (E.2.1 0, 256, .inl s_words))] sz none [(q_this, .inr (2, [.int s_sets, .int s_ways, .int s_weighed, .int s_plain, .ref q_memory, .ref q_words, .ref q_used, .ref q_last, .ref q_shape, .ref q_dirty, .int x.1, .int x.2.1, .int x.2.2.1, .int x.2.2.2.1])), (q_dirty, .inl (E.2.1 0, 32, .inl x.2.2.2.2.1)), (q_last, .inl (E.2.1 0, 32, .inl x.2.2.2.2.2.1)), (q_memory, .inl (E.2.1 0, 256, .inl x.2.2.2.2.2.2.1)), (q_shape, .inl (E.2.1 0, 32, .inl x.2.2.2.2.2.2.2.1)), (q_used, .inl (E.2.1 0, 32, .inl x.2.2.2.2.2.2.2.2.1)), (q_words, .inl (E.2.1 0, 256, .inl x.2.2.2.2.2.2.2.2.2))] := by
  refine zEnter (by decide) (Nat.le_of_ble_eq_true rfl) ?_
  intro C hC hR
  change zC C E cX3_perform "PackedCache$Store" 5 _ at hC
  have B24 : ∀ (N : Nat), ∀ (b4 : Int32) (s_clock : Int32) (s_hits : Int32) (s_victims : Int32) (s_backs : Int32) (s_dirty : (Nat → Int32)) (s_last : (Nat → Int32)) (s_memory : (Nat → Int32)) (s_shape : (Nat → Int32)) (s_used : (Nat → Int32)) (s_words : (Nat → Int32)), fX3_perform_24 s_sets s_ways s_weighed s_plain  N b4 s_clock s_hits s_victims s_backs s_dirty s_last s_memory s_shape s_used s_words = some x → J C 0 0 [(q_this, .inr (2, [.int s_sets, .int s_ways, .int s_weighed, .int s_plain, .ref q_memory, .ref q_words, .ref q_used, .ref q_last, .ref q_shape, .ref q_dirty, .int s_clock, .int s_hits, .int s_victims, .int s_backs])), (q_dirty, .inl (E.2.1 0, 32, .inl s_dirty)), (q_last, .inl (E.2.1 0, 32, .inl s_last)), (q_memory, .inl (E.2.1 0, 256, .inl s_memory)), (q_shape, .inl (E.2.1 0, 32, .inl s_shape)), (q_used, .inl (E.2.1 0, 32, .inl s_used)), (q_words, .inl (E.2.1 0, 256, .inl s_words))] [(0, .ref q_this), (4, .int b4)] 24 [] := by
    intro  N
    induction N with
    | zero =>
      intro b4 s_clock s_hits s_victims s_backs s_dirty s_last s_memory s_shape s_used s_words hf
      rw [fX3_perform_24] at hf
      cases hf
    | succ m ih =>
      intro b4 s_clock s_hits s_victims s_backs s_dirty s_last s_memory s_shape s_used s_words hf
      rw [fX3_perform_24] at hf
      refine j_iload (q := 26) hC dX3_perform_24 rfl 1 rfl ?_
      refine j_bipush (q := 28) (v := 32) hC dX3_perform_26 rfl (by decide) ?_
      refine j_icmp_ge (tgt := 43) (q := 31) hC dX3_perform_28 (by decide) rfl hf (fun _ hf => ?_) (fun _ hf => ?_)
      · refine j_goto (tgt := 53) hC dX3_perform_43 (by decide) ?_
        have hx := Option.some.inj hf
        exact j_vret hC hR dX3_perform_53 rfl (by rw [← hx])
      · refine j_aload_n (q := 32) hC dX3_perform_31 rfl rfl 0 rfl ?_
        refine j_iload (q := 34) hC dX3_perform_32 rfl 1 rfl ?_
        refine j_callV (q := 37) hC [.int b4] [] (fun x1 : Int32 × (Nat → Int32) × (Nat → Int32) => none) (fun x1 => [(q_this, .inr (2, [.int s_sets, .int s_ways, .int s_weighed, .int s_plain, .ref q_memory, .ref q_words, .ref q_used, .ref q_last, .ref q_shape, .ref q_dirty, .int s_clock, .int s_hits, .int s_victims, .int x1.1])), (q_dirty, .inl (E.2.1 0, 32, .inl x1.2.1)), (q_memory, .inl (E.2.1 0, 256, .inl x1.2.2)), (q_words, .inl (E.2.1 0, 256, .inl s_words))]) (fun x1 => [(q_this, .inr (2, [.int s_sets, .int s_ways, .int s_weighed, .int s_plain, .ref q_memory, .ref q_words, .ref q_used, .ref q_last, .ref q_shape, .ref q_dirty, .int s_clock, .int s_hits, .int s_victims, .int x1.1])), (q_dirty, .inl (E.2.1 0, 32, .inl x1.2.1)), (q_last, .inl (E.2.1 0, 32, .inl s_last)), (q_memory, .inl (E.2.1 0, 256, .inl x1.2.2)), (q_shape, .inl (E.2.1 0, 32, .inl s_shape)), (q_used, .inl (E.2.1 0, 32, .inl s_used)), (q_words, .inl (E.2.1 0, 256, .inl s_words))]) (fun x1 => []) [0, 1, 3, 6] [2, 4, 5] hf (fun x1 hx => wX3_writeBack E q_this q_dirty q_memory q_words s_sets s_ways s_weighed s_plain s_clock s_hits s_victims s_backs s_dirty s_memory s_words (.ref q_used) (.ref q_last) (.ref q_shape) b4 x1  hx) zy_X3_writeBack zw_640 (by unfold zRm; decide) rfl rfl (fun _ => rfl) (N := 7) (by decide) (fun _ => ⟨rfl, rfl, rfl⟩) rfl rfl rfl (Nat.le_of_ble_eq_true rfl) dX3_perform_34 rfl rfl (fun _ => rfl) (fun x1 hf => ?_)
        refine j_iinc (q := 40) (v := 1) hC (fun x2 => [(4, .int x2), (0, .ref q_this)]) dX3_perform_37 rfl 1 rfl (by decide) (by decide) (fun _ => rfl) hf (fun x2 hf => ?_)
        refine j_goto (tgt := 24) hC dX3_perform_40 (by decide) ?_
        refine j_sub (lv' := [(0, .ref q_this), (4, .int x2)]) [1, 0] rfl ?_
        exact ih x2 s_clock s_hits s_victims x1.1 x1.2.1 s_last x1.2.2 s_shape s_used s_words hf
  unfold fX3_perform at hf
  refine j_sub (lv' := [(0, .ref q_this), (1, .int a1), (2, .int a2), (3, .int a3)]) [0, 1, 2, 3] rfl ?_
  refine j_iload_n (q := 1) hC dX3_perform_0 rfl rfl 1 rfl ?_
  refine j_iconst (q := 2) (v := 2) hC dX3_perform_1 rfl (by decide) ?_
  refine j_icmp_ne (tgt := 16) (q := 5) hC dX3_perform_2 (by decide) rfl hf (fun _ hf => ?_) (fun _ hf => ?_)
  · refine j_iload_n (q := 17) hC dX3_perform_16 rfl rfl 1 rfl ?_
    refine j_iconst (q := 18) (v := 3) hC dX3_perform_17 rfl (by decide) ?_
    refine j_icmp_ne (tgt := 46) (q := 21) hC dX3_perform_18 (by decide) rfl hf (fun _ hf => ?_) (fun _ hf => ?_)
    · refine j_aload_n (q := 47) hC dX3_perform_46 rfl rfl 0 rfl ?_
      refine j_iload_n (q := 48) hC dX3_perform_47 rfl rfl 2 rfl ?_
      refine j_iload_n (q := 49) hC dX3_perform_48 rfl rfl 3 rfl ?_
      refine j_callV (q := 52) hC [.int a2, .int a3] [] (fun x1 : Int32 × Int32 × Int32 × Int32 × Int32 × (Nat → Int32) × (Nat → Int32) × (Nat → Int32) × (Nat → Int32) × (Nat → Int32) × (Nat → Int32) => some (.int x1.1)) (fun x1 => [(q_this, .inr (2, [.int s_sets, .int s_ways, .int s_weighed, .int s_plain, .ref q_memory, .ref q_words, .ref q_used, .ref q_last, .ref q_shape, .ref q_dirty, .int x1.2.1, .int x1.2.2.1, .int x1.2.2.2.1, .int x1.2.2.2.2.1])), (q_dirty, .inl (E.2.1 0, 32, .inl x1.2.2.2.2.2.1)), (q_last, .inl (E.2.1 0, 32, .inl x1.2.2.2.2.2.2.1)), (q_memory, .inl (E.2.1 0, 256, .inl x1.2.2.2.2.2.2.2.1)), (q_shape, .inl (E.2.1 0, 32, .inl x1.2.2.2.2.2.2.2.2.1)), (q_used, .inl (E.2.1 0, 32, .inl x1.2.2.2.2.2.2.2.2.2.1)), (q_words, .inl (E.2.1 0, 256, .inl x1.2.2.2.2.2.2.2.2.2.2))]) (fun x1 => [(q_this, .inr (2, [.int s_sets, .int s_ways, .int s_weighed, .int s_plain, .ref q_memory, .ref q_words, .ref q_used, .ref q_last, .ref q_shape, .ref q_dirty, .int x1.2.1, .int x1.2.2.1, .int x1.2.2.2.1, .int x1.2.2.2.2.1])), (q_dirty, .inl (E.2.1 0, 32, .inl x1.2.2.2.2.2.1)), (q_last, .inl (E.2.1 0, 32, .inl x1.2.2.2.2.2.2.1)), (q_memory, .inl (E.2.1 0, 256, .inl x1.2.2.2.2.2.2.2.1)), (q_shape, .inl (E.2.1 0, 32, .inl x1.2.2.2.2.2.2.2.2.1)), (q_used, .inl (E.2.1 0, 32, .inl x1.2.2.2.2.2.2.2.2.2.1)), (q_words, .inl (E.2.1 0, 256, .inl x1.2.2.2.2.2.2.2.2.2.2))]) (fun x1 => [.int x1.1]) [0, 1, 2, 3, 4, 5, 6] [] hf (fun x1 hx => wX3_use E q_this q_dirty q_last q_memory q_shape q_used q_words s_sets s_ways s_weighed s_plain s_clock s_hits s_victims s_backs s_dirty s_last s_memory s_shape s_used s_words a2 a3 x1  hx) zy_X3_use zw_675 (by unfold zRm; decide) rfl rfl (fun _ => rfl) (N := 7) (by decide) (fun _ => ⟨rfl, rfl, rfl⟩) rfl rfl rfl (Nat.le_of_ble_eq_true rfl) dX3_perform_49 rfl rfl (fun _ => rfl) (fun x1 hf => ?_)
      refine j_pop (q := 53) hC dX3_perform_52 rfl rfl ?_
      have hx := Option.some.inj hf
      exact j_vret hC hR dX3_perform_53 rfl (by rw [← hx])
    · refine j_iconst (q := 22) (v := 0) hC dX3_perform_21 rfl (by decide) ?_
      refine j_istore (q := 24) (lv' := [(4, .int 0), (0, .ref q_this), (1, .int a1), (2, .int a2), (3, .int a3)]) hC dX3_perform_22 rfl (by decide) rfl ?_
      refine j_sub (lv' := [(0, .ref q_this), (4, .int 0)]) [1, 0] rfl ?_
      exact B24  zF 0 s_clock s_hits s_victims s_backs s_dirty s_last s_memory s_shape s_used s_words hf
  · refine j_aload_n (q := 6) hC dX3_perform_5 rfl rfl 0 rfl ?_
    refine j_iload_n (q := 7) hC dX3_perform_6 rfl rfl 2 rfl ?_
    refine j_bipush (q := 9) (v := 8) hC dX3_perform_7 rfl (by decide) ?_
    refine j_idiv (q := 10) hC dX3_perform_9 rfl hf (fun x2 hf => ?_)
    refine j_callV (q := 13) hC [.int x2] [] (fun x3 : Int32 × (Nat → Int32) × (Nat → Int32) × (Nat → Int32) => none) (fun x3 => [(q_this, .inr (2, [.int s_sets, .int s_ways, .int s_weighed, .int s_plain, .ref q_memory, .ref q_words, .ref q_used, .ref q_last, .ref q_shape, .ref q_dirty, .int s_clock, .int s_hits, .int s_victims, .int x3.1])), (q_dirty, .inl (E.2.1 0, 32, .inl x3.2.1)), (q_memory, .inl (E.2.1 0, 256, .inl x3.2.2.1)), (q_used, .inl (E.2.1 0, 32, .inl x3.2.2.2)), (q_words, .inl (E.2.1 0, 256, .inl s_words))]) (fun x3 => [(q_this, .inr (2, [.int s_sets, .int s_ways, .int s_weighed, .int s_plain, .ref q_memory, .ref q_words, .ref q_used, .ref q_last, .ref q_shape, .ref q_dirty, .int s_clock, .int s_hits, .int s_victims, .int x3.1])), (q_dirty, .inl (E.2.1 0, 32, .inl x3.2.1)), (q_last, .inl (E.2.1 0, 32, .inl s_last)), (q_memory, .inl (E.2.1 0, 256, .inl x3.2.2.1)), (q_shape, .inl (E.2.1 0, 32, .inl s_shape)), (q_used, .inl (E.2.1 0, 32, .inl x3.2.2.2)), (q_words, .inl (E.2.1 0, 256, .inl s_words))]) (fun x3 => []) [0, 1, 3, 5, 6] [2, 4] hf (fun x3 hx => wX3_forgetLine E q_this q_dirty q_memory q_used q_words s_sets s_ways s_weighed s_plain s_clock s_hits s_victims s_backs s_dirty s_memory s_used s_words (.ref q_last) (.ref q_shape) x2 x3  hx) zy_X3_forgetLine zw_636 (by unfold zRm; decide) rfl rfl (fun _ => rfl) (N := 7) (by decide) (fun _ => ⟨rfl, rfl, rfl⟩) rfl rfl rfl (Nat.le_of_ble_eq_true rfl) dX3_perform_10 rfl rfl (fun _ => rfl) (fun x3 hf => ?_)
    refine j_goto (tgt := 53) hC dX3_perform_13 (by decide) ?_
    have hx := Option.some.inj hf
    exact j_vret hC hR dX3_perform_53 rfl (by rw [← hx])
noncomputable def fX3_dirtyIn_14 (s_sets : Int32) (s_dirty : (Nat → Int32))  : Nat → Int32 → Int32 → Int32 → Option (Int32)
  | 0, _, _, _ => none
  | m + 1, b2, b3, b4 =>
    if 32 ≤ b4 then (some b3)
    else (zald s_dirty 32 b4 fun x1 =>
    zlet (b3 + x1 : Int32) fun x2 =>
    zlet (b4 + b2 : Int32) fun x3 =>
    fX3_dirtyIn_14 s_sets s_dirty  m b2 x2 x3)
noncomputable def fX3_dirtyIn (s_sets : Int32) (s_dirty : (Nat → Int32)) (a1 : Int32) : Option (Int32) :=
  zlet (if s_sets < 1 then 1 else s_sets : Int32) fun x1 =>
    fX3_dirtyIn_14 s_sets s_dirty  zF x1 0 a1
set_option maxHeartbeats 4000000 in
set_option maxRecDepth 100000 in
theorem wX3_dirtyIn (E : zE) (q_this : Nat) (q_dirty : Nat) (s_sets : Int32) (s_ways : Int32) (s_weighed : Int32) (s_plain : Int32) (s_clock : Int32) (s_hits : Int32) (s_victims : Int32) (s_backs : Int32) (s_dirty : (Nat → Int32)) (v_memory : Value) (v_words : Value) (v_used : Value) (v_last : Value) (v_shape : Value) (a1 : Int32) (x : Int32) (hf : fX3_dirtyIn s_sets s_dirty a1 = some x) (l : Launch) (sz : Nat) : zM l yX3_dirtyIn cX3_dirtyIn 5 (some .int) { frames := 1, cells := 0, slots := 0, locals := 21 } E [.ref q_this, .int a1] [(q_this, .inr (2, [.int s_sets, .int s_ways, .int s_weighed, .int s_plain, v_memory, v_words, v_used, v_last, v_shape, .ref q_dirty, .int s_clock, .int s_hits, .int s_victims, .int s_backs])), (q_dirty, .inl (E.2.1 0, 32, .inl s_dirty))] sz (some (.int x)) [(q_this, .inr (2, [.int s_sets, .int s_ways, .int s_weighed, .int s_plain, v_memory, v_words, v_used, v_last, v_shape, .ref q_dirty, .int s_clock, .int s_hits, .int s_victims, .int s_backs])), (q_dirty, .inl (E.2.1 0, 32, .inl s_dirty))] := by
  refine zEnter (by decide) (Nat.le_of_ble_eq_true rfl) ?_
  intro C hC hR
  change zC C E cX3_dirtyIn "PackedCache$Store" 5 _ at hC
  have B14 : ∀ (N : Nat), ∀ (b2 : Int32) (b3 : Int32) (b4 : Int32), fX3_dirtyIn_14 s_sets s_dirty  N b2 b3 b4 = some x → J C 0 0 [(q_this, .inr (2, [.int s_sets, .int s_ways, .int s_weighed, .int s_plain, v_memory, v_words, v_used, v_last, v_shape, .ref q_dirty, .int s_clock, .int s_hits, .int s_victims, .int s_backs])), (q_dirty, .inl (E.2.1 0, 32, .inl s_dirty))] [(0, .ref q_this), (2, .int b2), (3, .int b3), (4, .int b4)] 14 [] := by
    intro  N
    induction N with
    | zero =>
      intro b2 b3 b4 hf
      rw [fX3_dirtyIn_14] at hf
      cases hf
    | succ m ih =>
      intro b2 b3 b4 hf
      rw [fX3_dirtyIn_14] at hf
      refine j_iload (q := 16) hC dX3_dirtyIn_14 rfl 3 rfl ?_
      refine j_bipush (q := 18) (v := 32) hC dX3_dirtyIn_16 rfl (by decide) ?_
      refine j_icmp_ge (tgt := 40) (q := 21) hC dX3_dirtyIn_18 (by decide) rfl hf (fun _ hf => ?_) (fun _ hf => ?_)
      · refine j_iload_n (q := 41) hC dX3_dirtyIn_40 rfl rfl 2 rfl ?_
        have hx := Option.some.inj hf
        exact j_iret hC hR dX3_dirtyIn_41 (by rw [← hx]) rfl
      · refine j_iload_n (q := 22) hC dX3_dirtyIn_21 rfl rfl 2 rfl ?_
        refine j_aload_n (q := 23) hC dX3_dirtyIn_22 rfl rfl 0 rfl ?_
        refine j_get (q := 26) hC zcl_X3 0 9 zw_178 ⟨rfl, rfl, by decide⟩ rfl rfl dX3_dirtyIn_23 rfl ?_
        refine j_iload (q := 28) hC dX3_dirtyIn_26 rfl 3 rfl ?_
        refine j_iald (q := 29) hC 1 rfl dX3_dirtyIn_28 rfl hf (fun x1 hf => ?_)
        refine j_iadd (q := 30) hC dX3_dirtyIn_29 rfl hf (fun x2 hf => ?_)
        refine j_istore_n (q := 31) (lv' := [(3, .int x2), (0, .ref q_this), (2, .int b2), (4, .int b4)]) hC dX3_dirtyIn_30 rfl rfl (by decide) rfl ?_
        refine j_iload (q := 33) hC dX3_dirtyIn_31 rfl 3 rfl ?_
        refine j_iload_n (q := 34) hC dX3_dirtyIn_33 rfl rfl 2 rfl ?_
        refine j_iadd (q := 35) hC dX3_dirtyIn_34 rfl hf (fun x3 hf => ?_)
        refine j_istore (q := 37) (lv' := [(4, .int x3), (3, .int x2), (0, .ref q_this), (2, .int b2)]) hC dX3_dirtyIn_35 rfl (by decide) rfl ?_
        refine j_goto (tgt := 14) hC dX3_dirtyIn_37 (by decide) ?_
        refine j_sub (lv' := [(0, .ref q_this), (2, .int b2), (3, .int x2), (4, .int x3)]) [2, 3, 1, 0] rfl ?_
        exact ih b2 x2 x3 hf
  unfold fX3_dirtyIn at hf
  refine j_sub (lv' := [(0, .ref q_this), (1, .int a1)]) [0, 1] rfl ?_
  refine j_aload_n (q := 1) hC dX3_dirtyIn_0 rfl rfl 0 rfl ?_
  refine j_get (q := 4) hC zcl_X3 0 0 zw_165 ⟨rfl, rfl, by decide⟩ rfl rfl dX3_dirtyIn_1 rfl ?_
  refine j_iconst (q := 5) (v := 1) hC dX3_dirtyIn_4 rfl (by decide) ?_
  refine j_max (q := 8) hC zw_569 zw_maxs zw_ini_math zw_maxc ⟨by decide, Nat.le_of_ble_eq_true rfl, by decide, by decide⟩ dX3_dirtyIn_5 rfl hf (fun x1 hf => ?_)
  refine j_istore_n (q := 9) (lv' := [(2, .int x1), (0, .ref q_this), (1, .int a1)]) hC dX3_dirtyIn_8 rfl rfl (by decide) rfl ?_
  refine j_iconst (q := 10) (v := 0) hC dX3_dirtyIn_9 rfl (by decide) ?_
  refine j_istore_n (q := 11) (lv' := [(3, .int 0), (2, .int x1), (0, .ref q_this), (1, .int a1)]) hC dX3_dirtyIn_10 rfl rfl (by decide) rfl ?_
  refine j_iload_n (q := 12) hC dX3_dirtyIn_11 rfl rfl 3 rfl ?_
  refine j_istore (q := 14) (lv' := [(4, .int a1), (3, .int 0), (2, .int x1), (0, .ref q_this), (1, .int a1)]) hC dX3_dirtyIn_12 rfl (by decide) rfl ?_
  refine j_sub (lv' := [(0, .ref q_this), (2, .int x1), (3, .int 0), (4, .int a1)]) [3, 2, 1, 0] rfl ?_
  exact B14  zF x1 0 a1 hf
noncomputable def fX3_usedSince_18 (s_sets : Int32) (s_last : (Nat → Int32)) (s_used : (Nat → Int32))  : Nat → Int32 → Int32 → Int32 → Int32 → Option (Int32)
  | 0, _, _, _, _ => none
  | m + 1, b1, b2, b3, b4 =>
    if 32 ≤ b4 then (some b3)
    else (zald s_used 32 b4 fun x1 =>
    if x1 ≤ 0 then (zlet (b4 + b2 : Int32) fun x2 =>
    fX3_usedSince_18 s_sets s_last s_used  m b1 b2 b3 x2)
    else (zald s_last 32 b4 fun x3 =>
    zald s_last 32 b1 fun x4 =>
    if x3 ≤ x4 then (zlet (b4 + b2 : Int32) fun x5 =>
    fX3_usedSince_18 s_sets s_last s_used  m b1 b2 b3 x5)
    else (zlet (b3 + 1) fun x6 =>
    zlet (b4 + b2 : Int32) fun x7 =>
    fX3_usedSince_18 s_sets s_last s_used  m b1 b2 x6 x7)))
noncomputable def fX3_usedSince (s_sets : Int32) (s_last : (Nat → Int32)) (s_used : (Nat → Int32)) (a1 : Int32) : Option (Int32) :=
  zlet (if s_sets < 1 then 1 else s_sets : Int32) fun x1 =>
    (fX3_setOf s_sets a1).bind fun x2 =>
    fX3_usedSince_18 s_sets s_last s_used  zF a1 x1 0 x2
set_option maxHeartbeats 4000000 in
set_option maxRecDepth 100000 in
theorem wX3_usedSince (E : zE) (q_this : Nat) (q_last : Nat) (q_used : Nat) (s_sets : Int32) (s_ways : Int32) (s_weighed : Int32) (s_plain : Int32) (s_clock : Int32) (s_hits : Int32) (s_victims : Int32) (s_backs : Int32) (s_last : (Nat → Int32)) (s_used : (Nat → Int32)) (v_memory : Value) (v_words : Value) (v_shape : Value) (v_dirty : Value) (a1 : Int32) (x : Int32) (hf : fX3_usedSince s_sets s_last s_used a1 = some x) (l : Launch) (sz : Nat) : zM l yX3_usedSince cX3_usedSince 5 (some .int) { frames := 1, cells := 0, slots := 0, locals := 21 } E [.ref q_this, .int a1] [(q_this, .inr (2, [.int s_sets, .int s_ways, .int s_weighed, .int s_plain, v_memory, v_words, .ref q_used, .ref q_last, v_shape, v_dirty, .int s_clock, .int s_hits, .int s_victims, .int s_backs])), (q_last, .inl (E.2.1 0, 32, .inl s_last)), (q_used, .inl (E.2.1 0, 32, .inl s_used))] sz (some (.int x)) [(q_this, .inr (2, [.int s_sets, .int s_ways, .int s_weighed, .int s_plain, v_memory, v_words, .ref q_used, .ref q_last, v_shape, v_dirty, .int s_clock, .int s_hits, .int s_victims, .int s_backs])), (q_last, .inl (E.2.1 0, 32, .inl s_last)), (q_used, .inl (E.2.1 0, 32, .inl s_used))] := by
  refine zEnter (by decide) (Nat.le_of_ble_eq_true rfl) ?_
  intro C hC hR
  change zC C E cX3_usedSince "PackedCache$Store" 5 _ at hC
  have B18 : ∀ (N : Nat), ∀ (b1 : Int32) (b2 : Int32) (b3 : Int32) (b4 : Int32), fX3_usedSince_18 s_sets s_last s_used  N b1 b2 b3 b4 = some x → J C 0 0 [(q_this, .inr (2, [.int s_sets, .int s_ways, .int s_weighed, .int s_plain, v_memory, v_words, .ref q_used, .ref q_last, v_shape, v_dirty, .int s_clock, .int s_hits, .int s_victims, .int s_backs])), (q_last, .inl (E.2.1 0, 32, .inl s_last)), (q_used, .inl (E.2.1 0, 32, .inl s_used))] [(0, .ref q_this), (1, .int b1), (2, .int b2), (3, .int b3), (4, .int b4)] 18 [] := by
    intro  N
    induction N with
    | zero =>
      intro b1 b2 b3 b4 hf
      rw [fX3_usedSince_18] at hf
      cases hf
    | succ m ih =>
      intro b1 b2 b3 b4 hf
      rw [fX3_usedSince_18] at hf
      refine j_iload (q := 20) hC dX3_usedSince_18 rfl 4 rfl ?_
      refine j_bipush (q := 22) (v := 32) hC dX3_usedSince_20 rfl (by decide) ?_
      refine j_icmp_ge (tgt := 63) (q := 25) hC dX3_usedSince_22 (by decide) rfl hf (fun _ hf => ?_) (fun _ hf => ?_)
      · refine j_iload_n (q := 64) hC dX3_usedSince_63 rfl rfl 3 rfl ?_
        have hx := Option.some.inj hf
        exact j_iret hC hR dX3_usedSince_64 (by rw [← hx]) rfl
      · refine j_aload_n (q := 26) hC dX3_usedSince_25 rfl rfl 0 rfl ?_
        refine j_get (q := 29) hC zcl_X3 0 6 zw_173 ⟨rfl, rfl, by decide⟩ rfl rfl dX3_usedSince_26 rfl ?_
        refine j_iload (q := 31) hC dX3_usedSince_29 rfl 4 rfl ?_
        refine j_iald (q := 32) hC 2 rfl dX3_usedSince_31 rfl hf (fun x1 hf => ?_)
        refine j_if_le (tgt := 54) (q := 35) hC dX3_usedSince_32 (by decide) rfl hf (fun _ hf => ?_) (fun _ hf => ?_)
        · refine j_iload (q := 56) hC dX3_usedSince_54 rfl 4 rfl ?_
          refine j_iload_n (q := 57) hC dX3_usedSince_56 rfl rfl 2 rfl ?_
          refine j_iadd (q := 58) hC dX3_usedSince_57 rfl hf (fun x2 hf => ?_)
          refine j_istore (q := 60) (lv' := [(4, .int x2), (0, .ref q_this), (1, .int b1), (2, .int b2), (3, .int b3)]) hC dX3_usedSince_58 rfl (by decide) rfl ?_
          refine j_goto (tgt := 18) hC dX3_usedSince_60 (by decide) ?_
          refine j_sub (lv' := [(0, .ref q_this), (1, .int b1), (2, .int b2), (3, .int b3), (4, .int x2)]) [1, 2, 3, 4, 0] rfl ?_
          exact ih b1 b2 b3 x2 hf
        · refine j_aload_n (q := 36) hC dX3_usedSince_35 rfl rfl 0 rfl ?_
          refine j_get (q := 39) hC zcl_X3 0 7 zw_175 ⟨rfl, rfl, by decide⟩ rfl rfl dX3_usedSince_36 rfl ?_
          refine j_iload (q := 41) hC dX3_usedSince_39 rfl 4 rfl ?_
          refine j_iald (q := 42) hC 1 rfl dX3_usedSince_41 rfl hf (fun x3 hf => ?_)
          refine j_aload_n (q := 43) hC dX3_usedSince_42 rfl rfl 0 rfl ?_
          refine j_get (q := 46) hC zcl_X3 0 7 zw_175 ⟨rfl, rfl, by decide⟩ rfl rfl dX3_usedSince_43 rfl ?_
          refine j_iload_n (q := 47) hC dX3_usedSince_46 rfl rfl 1 rfl ?_
          refine j_iald (q := 48) hC 1 rfl dX3_usedSince_47 rfl hf (fun x4 hf => ?_)
          refine j_icmp_le (tgt := 54) (q := 51) hC dX3_usedSince_48 (by decide) rfl hf (fun _ hf => ?_) (fun _ hf => ?_)
          · refine j_iload (q := 56) hC dX3_usedSince_54 rfl 4 rfl ?_
            refine j_iload_n (q := 57) hC dX3_usedSince_56 rfl rfl 2 rfl ?_
            refine j_iadd (q := 58) hC dX3_usedSince_57 rfl hf (fun x5 hf => ?_)
            refine j_istore (q := 60) (lv' := [(4, .int x5), (0, .ref q_this), (1, .int b1), (2, .int b2), (3, .int b3)]) hC dX3_usedSince_58 rfl (by decide) rfl ?_
            refine j_goto (tgt := 18) hC dX3_usedSince_60 (by decide) ?_
            refine j_sub (lv' := [(0, .ref q_this), (1, .int b1), (2, .int b2), (3, .int b3), (4, .int x5)]) [1, 2, 3, 4, 0] rfl ?_
            exact ih b1 b2 b3 x5 hf
          · refine j_iinc (q := 54) (v := 1) hC (fun x6 => [(3, .int x6), (0, .ref q_this), (1, .int b1), (2, .int b2), (4, .int b4)]) dX3_usedSince_51 rfl 3 rfl (by decide) (by decide) (fun _ => rfl) hf (fun x6 hf => ?_)
            refine j_iload (q := 56) hC dX3_usedSince_54 rfl 4 rfl ?_
            refine j_iload_n (q := 57) hC dX3_usedSince_56 rfl rfl 3 rfl ?_
            refine j_iadd (q := 58) hC dX3_usedSince_57 rfl hf (fun x7 hf => ?_)
            refine j_istore (q := 60) (lv' := [(4, .int x7), (3, .int x6), (0, .ref q_this), (1, .int b1), (2, .int b2)]) hC dX3_usedSince_58 rfl (by decide) rfl ?_
            refine j_goto (tgt := 18) hC dX3_usedSince_60 (by decide) ?_
            refine j_sub (lv' := [(0, .ref q_this), (1, .int b1), (2, .int b2), (3, .int x6), (4, .int x7)]) [2, 3, 4, 1, 0] rfl ?_
            exact ih b1 b2 x6 x7 hf
  unfold fX3_usedSince at hf
  refine j_sub (lv' := [(0, .ref q_this), (1, .int a1)]) [0, 1] rfl ?_
  refine j_aload_n (q := 1) hC dX3_usedSince_0 rfl rfl 0 rfl ?_
  refine j_get (q := 4) hC zcl_X3 0 0 zw_165 ⟨rfl, rfl, by decide⟩ rfl rfl dX3_usedSince_1 rfl ?_
  refine j_iconst (q := 5) (v := 1) hC dX3_usedSince_4 rfl (by decide) ?_
  refine j_max (q := 8) hC zw_569 zw_maxs zw_ini_math zw_maxc ⟨by decide, Nat.le_of_ble_eq_true rfl, by decide, by decide⟩ dX3_usedSince_5 rfl hf (fun x1 hf => ?_)
  refine j_istore_n (q := 9) (lv' := [(2, .int x1), (0, .ref q_this), (1, .int a1)]) hC dX3_usedSince_8 rfl rfl (by decide) rfl ?_
  refine j_iconst (q := 10) (v := 0) hC dX3_usedSince_9 rfl (by decide) ?_
  refine j_istore_n (q := 11) (lv' := [(3, .int 0), (2, .int x1), (0, .ref q_this), (1, .int a1)]) hC dX3_usedSince_10 rfl rfl (by decide) rfl ?_
  refine j_aload_n (q := 12) hC dX3_usedSince_11 rfl rfl 2 rfl ?_
  refine j_iload_n (q := 13) hC dX3_usedSince_12 rfl rfl 3 rfl ?_
  refine j_callV (q := 16) hC [.int a1] [] (fun x2 : Int32 => some (.int x2)) (fun x2 => [(q_this, .inr (2, [.int s_sets, .int s_ways, .int s_weighed, .int s_plain, v_memory, v_words, .ref q_used, .ref q_last, v_shape, v_dirty, .int s_clock, .int s_hits, .int s_victims, .int s_backs]))]) (fun x2 => [(q_this, .inr (2, [.int s_sets, .int s_ways, .int s_weighed, .int s_plain, v_memory, v_words, .ref q_used, .ref q_last, v_shape, v_dirty, .int s_clock, .int s_hits, .int s_victims, .int s_backs])), (q_last, .inl (E.2.1 0, 32, .inl s_last)), (q_used, .inl (E.2.1 0, 32, .inl s_used))]) (fun x2 => [.int x2]) [0] [1, 2] hf (fun x2 hx => wX3_setOf E q_this s_sets s_ways s_weighed s_plain s_clock s_hits s_victims s_backs (v_memory) (v_words) (.ref q_used) (.ref q_last) (v_shape) (v_dirty) a1 x2  hx) zy_X3_setOf zw_597 (by unfold zRm; decide) rfl rfl (fun _ => rfl) (N := 3) (by decide) (fun _ => ⟨rfl, rfl, rfl⟩) rfl rfl rfl (Nat.le_of_ble_eq_true rfl) dX3_usedSince_13 rfl rfl (fun _ => rfl) (fun x2 hf => ?_)
  refine j_istore (q := 18) (lv' := [(4, .int x2), (3, .int 0), (2, .int x1), (0, .ref q_this), (1, .int a1)]) hC dX3_usedSince_16 rfl (by decide) rfl ?_
  refine j_sub (lv' := [(0, .ref q_this), (1, .int a1), (2, .int x1), (3, .int 0), (4, .int x2)]) [3, 4, 2, 1, 0] rfl ?_
  exact B18  zF a1 x1 0 x2 hf
