noncomputable def fX3_countAnew (s_hits : Int32) (s_victims : Int32) (s_backs : Int32) : Option (Int32 × Int32 × Int32) :=
  some (0, 0, 0)
set_option maxHeartbeats 4000000 in
set_option maxRecDepth 100000 in
theorem wX3_countAnew (E : zE) (q_this : Nat) (s_sets : Int32) (s_ways : Int32) (s_weighed : Int32) (s_plain : Int32) (s_clock : Int32) (s_hits : Int32) (s_victims : Int32) (s_backs : Int32) (v_memory : Value) (v_words : Value) (v_used : Value) (v_last : Value) (v_shape : Value) (v_dirty : Value) (x : Int32 × Int32 × Int32) (hf : fX3_countAnew s_hits s_victims s_backs = some x) (l : Launch) (sz : Nat) : zM l yX3_countAnew cX3_countAnew 1 none { frames := 0, cells := 0, slots := 0, locals := 0 } E [.ref q_this] [(q_this, .inr (2, [.int s_sets, .int s_ways, .int s_weighed, .int s_plain, v_memory, v_words, v_used, v_last, v_shape, v_dirty, .int s_clock, .int s_hits, .int s_victims, .int s_backs]))] sz none [(q_this, .inr (2, [.int s_sets, .int s_ways, .int s_weighed, .int s_plain, v_memory, v_words, v_used, v_last, v_shape, v_dirty, .int s_clock, .int x.1, .int x.2.1, .int x.2.2]))] := by
  refine zEnter (by decide) (Nat.le_of_ble_eq_true rfl) ?_
  intro C hC hR
  change zC C E cX3_countAnew "PackedCache$Store" 1 _ at hC
  unfold fX3_countAnew at hf
  refine j_sub (lv' := [(0, .ref q_this)]) [0] rfl ?_
  refine j_aload_n (q := 1) hC dX3_countAnew_0 rfl rfl 0 rfl ?_
  refine j_iconst (q := 2) (v := 0) hC dX3_countAnew_1 rfl (by decide) ?_
  refine j_put (q := 5) (host := "") hC zcl_X3 0 11 (ws' := [(q_this, .inr (2, [.int s_sets, .int s_ways, .int s_weighed, .int s_plain, v_memory, v_words, v_used, v_last, v_shape, v_dirty, .int s_clock, .int 0, .int s_victims, .int s_backs]))]) zw_181 ⟨rfl, rfl, by decide, rfl⟩ rfl rfl rfl (Nat.le_of_ble_eq_true rfl) rfl dX3_countAnew_2 rfl ?_
  refine j_aload_n (q := 6) hC dX3_countAnew_5 rfl rfl 0 rfl ?_
  refine j_iconst (q := 7) (v := 0) hC dX3_countAnew_6 rfl (by decide) ?_
  refine j_put (q := 10) (host := "") hC zcl_X3 0 12 (ws' := [(q_this, .inr (2, [.int s_sets, .int s_ways, .int s_weighed, .int s_plain, v_memory, v_words, v_used, v_last, v_shape, v_dirty, .int s_clock, .int 0, .int 0, .int s_backs]))]) zw_183 ⟨rfl, rfl, by decide, rfl⟩ rfl rfl rfl (Nat.le_of_ble_eq_true rfl) rfl dX3_countAnew_7 rfl ?_
  refine j_aload_n (q := 11) hC dX3_countAnew_10 rfl rfl 0 rfl ?_
  refine j_iconst (q := 12) (v := 0) hC dX3_countAnew_11 rfl (by decide) ?_
  refine j_put (q := 15) (host := "") hC zcl_X3 0 13 (ws' := [(q_this, .inr (2, [.int s_sets, .int s_ways, .int s_weighed, .int s_plain, v_memory, v_words, v_used, v_last, v_shape, v_dirty, .int s_clock, .int 0, .int 0, .int 0]))]) zw_185 ⟨rfl, rfl, by decide, rfl⟩ rfl rfl rfl (Nat.le_of_ble_eq_true rfl) rfl dX3_countAnew_12 rfl ?_
  have hx := Option.some.inj hf
  exact j_vret hC hR dX3_countAnew_15 rfl (by rw [← hx])
noncomputable def fX3_begin_57 (s_a1_sets : Int32) (s_a1_weighed : Int32) (s_a1_unsure : Int32) (s_a1_memory : (Nat → Int32)) (s_a1_unsureSpot : (Nat → Int32)) (s_a1_unsureWord : (Nat → Int32))  : Nat → Int32 → Int32 → Int32 → Int32 → Int32 → Int32 → Int32 → Int32 → Int32 → Int32 → (Nat → Int32) → (Nat → Int32) → (Nat → Int32) → (Nat → Int32) → Option (Int32 × Int32 × Int32 × Int32 × Int32 × Int32 × Int32 × Int32 × (Nat → Int32) × (Nat → Int32) × (Nat → Int32) × (Nat → Int32))
  | 0, _, _, _, _, _, _, _, _, _, _, _, _, _, _ => none
  | m + 1, b4, b5, s_sets, s_ways, s_weighed, s_plain, s_clock, s_hits, s_victims, s_backs, s_dirty, s_memory, s_used, s_words =>
    if s_a1_unsure ≤ b5 then (zcpy s_memory s_words 256 256 0 0 256 fun x1 =>
    (fJ7_fill_53178 32 s_used 0).bind fun x2 =>
    (fJ7_fill_53178 32 s_dirty 0).bind fun x3 =>
    (fX3_countAnew s_hits s_victims s_backs).bind fun x4 =>
    some (s_sets, s_ways, s_weighed, s_plain, 0, x4.1, x4.2.1, x4.2.2, x3, s_memory, x2, x1))
    else (zlet (b4 >>> (b5 &&& 31) : Int32) fun x5 =>
    zlet (x5 &&& 1 : Int32) fun x6 =>
    if x6 = 1 then (zald s_a1_unsureSpot 4 b5 fun x8 =>
    zald s_a1_unsureWord 4 b5 fun x9 =>
    zast s_memory 256 x8 x9 fun x10 =>
    zlet (b5 + 1) fun x11 =>
    fX3_begin_57 s_a1_sets s_a1_weighed s_a1_unsure s_a1_memory s_a1_unsureSpot s_a1_unsureWord  m b4 x11 s_sets s_ways s_weighed s_plain s_clock s_hits s_victims s_backs s_dirty x10 s_used s_words)
    else (zlet (b5 + 1) fun x7 =>
    fX3_begin_57 s_a1_sets s_a1_weighed s_a1_unsure s_a1_memory s_a1_unsureSpot s_a1_unsureWord  m b4 x7 s_sets s_ways s_weighed s_plain s_clock s_hits s_victims s_backs s_dirty s_memory s_used s_words))
noncomputable def fX3_begin_35 (s_a1_sets : Int32) (s_a1_weighed : Int32) (s_a1_unsure : Int32) (s_a1_memory : (Nat → Int32)) (s_a1_unsureSpot : (Nat → Int32)) (s_a1_unsureWord : (Nat → Int32))  (b4 : Int32) (t0 : Int32) (s_sets : Int32) (s_ways : Int32) (s_weighed : Int32) (s_plain : Int32) (s_clock : Int32) (s_hits : Int32) (s_victims : Int32) (s_backs : Int32) (s_dirty : (Nat → Int32)) (s_memory : (Nat → Int32)) (s_used : (Nat → Int32)) (s_words : (Nat → Int32)) : Option (Int32 × Int32 × Int32 × Int32 × Int32 × Int32 × Int32 × Int32 × (Nat → Int32) × (Nat → Int32) × (Nat → Int32) × (Nat → Int32)) :=
  zbl t0 (
    zcpy s_a1_memory s_memory 256 256 0 0 256 fun x1 =>
    fX3_begin_57 s_a1_sets s_a1_weighed s_a1_unsure s_a1_memory s_a1_unsureSpot s_a1_unsureWord  zF b4 0 s_sets s_ways t0 s_plain s_clock s_hits s_victims s_backs s_dirty x1 s_used s_words)
noncomputable def fX3_begin_34 (s_a1_sets : Int32) (s_a1_weighed : Int32) (s_a1_unsure : Int32) (s_a1_memory : (Nat → Int32)) (s_a1_unsureSpot : (Nat → Int32)) (s_a1_unsureWord : (Nat → Int32))  (b4 : Int32) (s_sets : Int32) (s_ways : Int32) (s_weighed : Int32) (s_plain : Int32) (s_clock : Int32) (s_hits : Int32) (s_victims : Int32) (s_backs : Int32) (s_dirty : (Nat → Int32)) (s_memory : (Nat → Int32)) (s_used : (Nat → Int32)) (s_words : (Nat → Int32)) : Option (Int32 × Int32 × Int32 × Int32 × Int32 × Int32 × Int32 × Int32 × (Nat → Int32) × (Nat → Int32) × (Nat → Int32) × (Nat → Int32)) :=
  fX3_begin_35 s_a1_sets s_a1_weighed s_a1_unsure s_a1_memory s_a1_unsureSpot s_a1_unsureWord  b4 0 s_sets s_ways s_weighed s_plain s_clock s_hits s_victims s_backs s_dirty s_memory s_used s_words
noncomputable def fX3_begin (s_sets : Int32) (s_ways : Int32) (s_weighed : Int32) (s_plain : Int32) (s_clock : Int32) (s_hits : Int32) (s_victims : Int32) (s_backs : Int32) (s_a1_sets : Int32) (s_a1_weighed : Int32) (s_a1_unsure : Int32) (s_a1_memory : (Nat → Int32)) (s_a1_unsureSpot : (Nat → Int32)) (s_a1_unsureWord : (Nat → Int32)) (s_dirty : (Nat → Int32)) (s_memory : (Nat → Int32)) (s_used : (Nat → Int32)) (s_words : (Nat → Int32)) (a2 : Int32) (a3 : Int32) (a4 : Int32) : Option (Int32 × Int32 × Int32 × Int32 × Int32 × Int32 × Int32 × Int32 × (Nat → Int32) × (Nat → Int32) × (Nat → Int32) × (Nat → Int32)) :=
  zbl a3 (
    if s_a1_weighed = 0 then (fX3_begin_34 s_a1_sets s_a1_weighed s_a1_unsure s_a1_memory s_a1_unsureSpot s_a1_unsureWord  a4 s_a1_sets a2 s_weighed a3 s_clock s_hits s_victims s_backs s_dirty s_memory s_used s_words)
    else (if a3 = 0 then (fX3_begin_35 s_a1_sets s_a1_weighed s_a1_unsure s_a1_memory s_a1_unsureSpot s_a1_unsureWord  a4 1 s_a1_sets a2 s_weighed a3 s_clock s_hits s_victims s_backs s_dirty s_memory s_used s_words)
    else (fX3_begin_34 s_a1_sets s_a1_weighed s_a1_unsure s_a1_memory s_a1_unsureSpot s_a1_unsureWord  a4 s_a1_sets a2 s_weighed a3 s_clock s_hits s_victims s_backs s_dirty s_memory s_used s_words)))
set_option maxHeartbeats 4000000 in
set_option maxRecDepth 100000 in
theorem wX3_begin (E : zE) (q_this : Nat) (q_a1 : Nat) (q_a1_memory : Nat) (q_a1_unsureSpot : Nat) (q_a1_unsureWord : Nat) (q_dirty : Nat) (q_memory : Nat) (q_used : Nat) (q_words : Nat) (s_sets : Int32) (s_ways : Int32) (s_weighed : Int32) (s_plain : Int32) (s_clock : Int32) (s_hits : Int32) (s_victims : Int32) (s_backs : Int32) (s_a1_sets : Int32) (s_a1_ways : Int32) (s_a1_weighed : Int32) (s_a1_linesTold : Int32) (s_a1_steps : Int32) (s_a1_unsure : Int32) (s_a1_seen : Int32) (s_a1_fitsKnown : Int32) (s_a1_fitBits : Int32) (s_a1_memory : (Nat → Int32)) (s_a1_unsureSpot : (Nat → Int32)) (s_a1_unsureWord : (Nat → Int32)) (s_dirty : (Nat → Int32)) (s_memory : (Nat → Int32)) (s_used : (Nat → Int32)) (s_words : (Nat → Int32)) (v_last : Value) (v_shape : Value) (v_a1_toldAlready : Value) (v_a1_stepSpot : Value) (v_a1_stepWord : Value) (v_a1_seenStep : Value) (v_a1_seenHit : Value) (a2 : Int32) (a3 : Int32) (a4 : Int32) (x : Int32 × Int32 × Int32 × Int32 × Int32 × Int32 × Int32 × Int32 × (Nat → Int32) × (Nat → Int32) × (Nat → Int32) × (Nat → Int32)) (hf : fX3_begin s_sets s_ways s_weighed s_plain s_clock s_hits s_victims s_backs s_a1_sets s_a1_weighed s_a1_unsure s_a1_memory s_a1_unsureSpot s_a1_unsureWord s_dirty s_memory s_used s_words a2 a3 a4 = some x) (l : Launch) (sz : Nat) : zM l yX3_begin cX3_begin 6 none { frames := 1, cells := 0, slots := 0, locals := 26 } E [.ref q_this, .ref q_a1, .int a2, .int a3, .int a4] [(q_this, .inr (2, [.int s_sets, .int s_ways, .int s_weighed, .int s_plain, .ref q_memory, .ref q_words, .ref q_used, v_last, v_shape, .ref q_dirty, .int s_clock, .int s_hits, .int s_victims, .int s_backs])), (q_a1, .inr (1, [.int s_a1_sets, .int s_a1_ways, .int s_a1_weighed, .int s_a1_linesTold, v_a1_toldAlready, .ref q_a1_memory, .int s_a1_steps, v_a1_stepSpot, v_a1_stepWord, .int s_a1_unsure, .ref q_a1_unsureSpot, .ref q_a1_unsureWord, .int s_a1_seen, v_a1_seenStep, v_a1_seenHit, .int s_a1_fitsKnown, .int s_a1_fitBits])), (q_a1_memory, .inl (E.2.1 0, 256, .inl s_a1_memory)), (q_a1_unsureSpot, .inl (E.2.1 0, 4, .inl s_a1_unsureSpot)), (q_a1_unsureWord, .inl (E.2.1 0, 4, .inl s_a1_unsureWord)), (q_dirty, .inl (E.2.1 0, 32, .inl s_dirty)), (q_memory, .inl (E.2.1 0, 256, .inl s_memory)), (q_used, .inl (E.2.1 0, 32, .inl s_used)), (q_words, .inl (E.2.1 0, 256, .inl s_words))] sz none [(q_this, .inr (2, [.int x.1, .int x.2.1, .int x.2.2.1, .int x.2.2.2.1, .ref q_memory, .ref q_words, .ref q_used, v_last, v_shape, .ref q_dirty, .int x.2.2.2.2.1, .int x.2.2.2.2.2.1, .int x.2.2.2.2.2.2.1, .int x.2.2.2.2.2.2.2.1])), (q_a1, .inr (1, [.int s_a1_sets, .int s_a1_ways, .int s_a1_weighed, .int s_a1_linesTold, v_a1_toldAlready, .ref q_a1_memory, .int s_a1_steps, v_a1_stepSpot, v_a1_stepWord, .int s_a1_unsure, .ref q_a1_unsureSpot, .ref q_a1_unsureWord, .int s_a1_seen, v_a1_seenStep, v_a1_seenHit, .int s_a1_fitsKnown, .int s_a1_fitBits])), (q_a1_memory, .inl (E.2.1 0, 256, .inl s_a1_memory)), (q_a1_unsureSpot, .inl (E.2.1 0, 4, .inl s_a1_unsureSpot)), (q_a1_unsureWord, .inl (E.2.1 0, 4, .inl s_a1_unsureWord)), (q_dirty, .inl (E.2.1 0, 32, .inl x.2.2.2.2.2.2.2.2.1)), (q_memory, .inl (E.2.1 0, 256, .inl x.2.2.2.2.2.2.2.2.2.1)), (q_used, .inl (E.2.1 0, 32, .inl x.2.2.2.2.2.2.2.2.2.2.1)), (q_words, .inl (E.2.1 0, 256, .inl x.2.2.2.2.2.2.2.2.2.2.2))] := by
  refine zEnter (by decide) (Nat.le_of_ble_eq_true rfl) ?_
  intro C hC hR
  change zC C E cX3_begin "PackedCache$Store" 6 _ at hC
  have B57 : ∀ (N : Nat), ∀ (b4 : Int32) (b5 : Int32) (s_sets : Int32) (s_ways : Int32) (s_weighed : Int32) (s_plain : Int32) (s_clock : Int32) (s_hits : Int32) (s_victims : Int32) (s_backs : Int32) (s_dirty : (Nat → Int32)) (s_memory : (Nat → Int32)) (s_used : (Nat → Int32)) (s_words : (Nat → Int32)), fX3_begin_57 s_a1_sets s_a1_weighed s_a1_unsure s_a1_memory s_a1_unsureSpot s_a1_unsureWord  N b4 b5 s_sets s_ways s_weighed s_plain s_clock s_hits s_victims s_backs s_dirty s_memory s_used s_words = some x → J C 0 0 [(q_this, .inr (2, [.int s_sets, .int s_ways, .int s_weighed, .int s_plain, .ref q_memory, .ref q_words, .ref q_used, v_last, v_shape, .ref q_dirty, .int s_clock, .int s_hits, .int s_victims, .int s_backs])), (q_a1, .inr (1, [.int s_a1_sets, .int s_a1_ways, .int s_a1_weighed, .int s_a1_linesTold, v_a1_toldAlready, .ref q_a1_memory, .int s_a1_steps, v_a1_stepSpot, v_a1_stepWord, .int s_a1_unsure, .ref q_a1_unsureSpot, .ref q_a1_unsureWord, .int s_a1_seen, v_a1_seenStep, v_a1_seenHit, .int s_a1_fitsKnown, .int s_a1_fitBits])), (q_a1_memory, .inl (E.2.1 0, 256, .inl s_a1_memory)), (q_a1_unsureSpot, .inl (E.2.1 0, 4, .inl s_a1_unsureSpot)), (q_a1_unsureWord, .inl (E.2.1 0, 4, .inl s_a1_unsureWord)), (q_dirty, .inl (E.2.1 0, 32, .inl s_dirty)), (q_memory, .inl (E.2.1 0, 256, .inl s_memory)), (q_used, .inl (E.2.1 0, 32, .inl s_used)), (q_words, .inl (E.2.1 0, 256, .inl s_words))] [(0, .ref q_this), (1, .ref q_a1), (4, .int b4), (5, .int b5)] 57 [] := by
    intro  N
    induction N with
    | zero =>
      intro b4 b5 s_sets s_ways s_weighed s_plain s_clock s_hits s_victims s_backs s_dirty s_memory s_used s_words hf
      rw [fX3_begin_57] at hf
      cases hf
    | succ m ih =>
      intro b4 b5 s_sets s_ways s_weighed s_plain s_clock s_hits s_victims s_backs s_dirty s_memory s_used s_words hf
      rw [fX3_begin_57] at hf
      refine j_iload (q := 59) hC dX3_begin_57 rfl 3 rfl ?_
      refine j_aload_n (q := 60) hC dX3_begin_59 rfl rfl 1 rfl ?_
      refine j_getN (q := 63) hC zcl_X1 1 9 zn_65 ⟨rfl, rfl, by decide⟩ rfl rfl dX3_begin_60 rfl ?_
      refine j_icmp_ge (tgt := 102) (q := 66) hC dX3_begin_63 (by decide) rfl hf (fun _ hf => ?_) (fun _ hf => ?_)
      · refine j_aload_n (q := 103) hC dX3_begin_102 rfl rfl 0 rfl ?_
        refine j_get (q := 106) hC zcl_X3 0 4 zw_169 ⟨rfl, rfl, by decide⟩ rfl rfl dX3_begin_103 rfl ?_
        refine j_iconst (q := 107) (v := 0) hC dX3_begin_106 rfl (by decide) ?_
        refine j_aload_n (q := 108) hC dX3_begin_107 rfl rfl 0 rfl ?_
        refine j_get (q := 111) hC zcl_X3 0 5 zw_171 ⟨rfl, rfl, by decide⟩ rfl rfl dX3_begin_108 rfl ?_
        refine j_iconst (q := 112) (v := 0) hC dX3_begin_111 rfl (by decide) ?_
        refine j_sipush (q := 115) (v := 256) hC dX3_begin_112 rfl (by decide) ?_
        refine j_copy (q := 118) hC 6 8 (fun x1 => [(q_this, .inr (2, [.int s_sets, .int s_ways, .int s_weighed, .int s_plain, .ref q_memory, .ref q_words, .ref q_used, v_last, v_shape, .ref q_dirty, .int s_clock, .int s_hits, .int s_victims, .int s_backs])), (q_a1, .inr (1, [.int s_a1_sets, .int s_a1_ways, .int s_a1_weighed, .int s_a1_linesTold, v_a1_toldAlready, .ref q_a1_memory, .int s_a1_steps, v_a1_stepSpot, v_a1_stepWord, .int s_a1_unsure, .ref q_a1_unsureSpot, .ref q_a1_unsureWord, .int s_a1_seen, v_a1_seenStep, v_a1_seenHit, .int s_a1_fitsKnown, .int s_a1_fitBits])), (q_a1_memory, .inl (E.2.1 0, 256, .inl s_a1_memory)), (q_a1_unsureSpot, .inl (E.2.1 0, 4, .inl s_a1_unsureSpot)), (q_a1_unsureWord, .inl (E.2.1 0, 4, .inl s_a1_unsureWord)), (q_dirty, .inl (E.2.1 0, 32, .inl s_dirty)), (q_memory, .inl (E.2.1 0, 256, .inl s_memory)), (q_used, .inl (E.2.1 0, 32, .inl s_used)), (q_words, .inl (E.2.1 0, 256, .inl x1))]) rfl rfl (fun _ => rfl) zw_438 zw_acn zw_acs zw_ini_sys ⟨by decide, Nat.le_of_ble_eq_true rfl⟩ dX3_begin_115 rfl hf (fun x1 hf => ?_)
        refine j_aload_n (q := 119) hC dX3_begin_118 rfl rfl 0 rfl ?_
        refine j_get (q := 122) hC zcl_X3 0 6 zw_173 ⟨rfl, rfl, by decide⟩ rfl rfl dX3_begin_119 rfl ?_
        refine j_iconst (q := 123) (v := 0) hC dX3_begin_122 rfl (by decide) ?_
        refine j_callS (q := 126) hC [.ref q_used, .int 0] [] (fun x2 : (Nat → Int32) => none) (fun x2 => [(q_used, .inl (E.2.1 0, 32, .inl x2))]) (fun x2 => [(q_this, .inr (2, [.int s_sets, .int s_ways, .int s_weighed, .int s_plain, .ref q_memory, .ref q_words, .ref q_used, v_last, v_shape, .ref q_dirty, .int s_clock, .int s_hits, .int s_victims, .int s_backs])), (q_a1, .inr (1, [.int s_a1_sets, .int s_a1_ways, .int s_a1_weighed, .int s_a1_linesTold, v_a1_toldAlready, .ref q_a1_memory, .int s_a1_steps, v_a1_stepSpot, v_a1_stepWord, .int s_a1_unsure, .ref q_a1_unsureSpot, .ref q_a1_unsureWord, .int s_a1_seen, v_a1_seenStep, v_a1_seenHit, .int s_a1_fitsKnown, .int s_a1_fitBits])), (q_a1_memory, .inl (E.2.1 0, 256, .inl s_a1_memory)), (q_a1_unsureSpot, .inl (E.2.1 0, 4, .inl s_a1_unsureSpot)), (q_a1_unsureWord, .inl (E.2.1 0, 4, .inl s_a1_unsureWord)), (q_dirty, .inl (E.2.1 0, 32, .inl s_dirty)), (q_memory, .inl (E.2.1 0, 256, .inl s_memory)), (q_used, .inl (E.2.1 0, 32, .inl x2)), (q_words, .inl (E.2.1 0, 256, .inl x1))]) (fun x2 => []) [7] [0, 1, 2, 3, 4, 5, 6, 8] hf (fun x2 hx => wJ7_fill_53178 E 32 q_used s_used 0 x2  hx) zy_J7_fill_53178 zw_441 (by unfold zRm; decide) rfl rfl (fun _ => rfl) (N := 9) (by decide) (fun _ => ⟨rfl, rfl, rfl⟩) rfl (Nat.le_of_ble_eq_true rfl) dX3_begin_123 rfl rfl (fun _ => rfl) (fun x2 hf => ?_)
        refine j_aload_n (q := 127) hC dX3_begin_126 rfl rfl 0 rfl ?_
        refine j_get (q := 130) hC zcl_X3 0 9 zw_178 ⟨rfl, rfl, by decide⟩ rfl rfl dX3_begin_127 rfl ?_
        refine j_iconst (q := 131) (v := 0) hC dX3_begin_130 rfl (by decide) ?_
        refine j_callS (q := 134) hC [.ref q_dirty, .int 0] [] (fun x3 : (Nat → Int32) => none) (fun x3 => [(q_dirty, .inl (E.2.1 0, 32, .inl x3))]) (fun x3 => [(q_this, .inr (2, [.int s_sets, .int s_ways, .int s_weighed, .int s_plain, .ref q_memory, .ref q_words, .ref q_used, v_last, v_shape, .ref q_dirty, .int s_clock, .int s_hits, .int s_victims, .int s_backs])), (q_a1, .inr (1, [.int s_a1_sets, .int s_a1_ways, .int s_a1_weighed, .int s_a1_linesTold, v_a1_toldAlready, .ref q_a1_memory, .int s_a1_steps, v_a1_stepSpot, v_a1_stepWord, .int s_a1_unsure, .ref q_a1_unsureSpot, .ref q_a1_unsureWord, .int s_a1_seen, v_a1_seenStep, v_a1_seenHit, .int s_a1_fitsKnown, .int s_a1_fitBits])), (q_a1_memory, .inl (E.2.1 0, 256, .inl s_a1_memory)), (q_a1_unsureSpot, .inl (E.2.1 0, 4, .inl s_a1_unsureSpot)), (q_a1_unsureWord, .inl (E.2.1 0, 4, .inl s_a1_unsureWord)), (q_dirty, .inl (E.2.1 0, 32, .inl x3)), (q_memory, .inl (E.2.1 0, 256, .inl s_memory)), (q_used, .inl (E.2.1 0, 32, .inl x2)), (q_words, .inl (E.2.1 0, 256, .inl x1))]) (fun x3 => []) [5] [0, 1, 2, 3, 4, 6, 7, 8] hf (fun x3 hx => wJ7_fill_53178 E 32 q_dirty s_dirty 0 x3  hx) zy_J7_fill_53178 zw_441 (by unfold zRm; decide) rfl rfl (fun _ => rfl) (N := 9) (by decide) (fun _ => ⟨rfl, rfl, rfl⟩) rfl (Nat.le_of_ble_eq_true rfl) dX3_begin_131 rfl rfl (fun _ => rfl) (fun x3 hf => ?_)
        refine j_aload_n (q := 135) hC dX3_begin_134 rfl rfl 0 rfl ?_
        refine j_iconst (q := 136) (v := 0) hC dX3_begin_135 rfl (by decide) ?_
        refine j_put (q := 139) (host := "") hC zcl_X3 0 10 (ws' := [(q_this, .inr (2, [.int s_sets, .int s_ways, .int s_weighed, .int s_plain, .ref q_memory, .ref q_words, .ref q_used, v_last, v_shape, .ref q_dirty, .int 0, .int s_hits, .int s_victims, .int s_backs])), (q_a1, .inr (1, [.int s_a1_sets, .int s_a1_ways, .int s_a1_weighed, .int s_a1_linesTold, v_a1_toldAlready, .ref q_a1_memory, .int s_a1_steps, v_a1_stepSpot, v_a1_stepWord, .int s_a1_unsure, .ref q_a1_unsureSpot, .ref q_a1_unsureWord, .int s_a1_seen, v_a1_seenStep, v_a1_seenHit, .int s_a1_fitsKnown, .int s_a1_fitBits])), (q_a1_memory, .inl (E.2.1 0, 256, .inl s_a1_memory)), (q_a1_unsureSpot, .inl (E.2.1 0, 4, .inl s_a1_unsureSpot)), (q_a1_unsureWord, .inl (E.2.1 0, 4, .inl s_a1_unsureWord)), (q_dirty, .inl (E.2.1 0, 32, .inl x3)), (q_memory, .inl (E.2.1 0, 256, .inl s_memory)), (q_used, .inl (E.2.1 0, 32, .inl x2)), (q_words, .inl (E.2.1 0, 256, .inl x1))]) zw_180 ⟨rfl, rfl, by decide, rfl⟩ rfl rfl rfl (Nat.le_of_ble_eq_true rfl) rfl dX3_begin_136 rfl ?_
        refine j_aload_n (q := 140) hC dX3_begin_139 rfl rfl 0 rfl ?_
        refine j_callV (q := 143) hC [] [] (fun x4 : Int32 × Int32 × Int32 => none) (fun x4 => [(q_this, .inr (2, [.int s_sets, .int s_ways, .int s_weighed, .int s_plain, .ref q_memory, .ref q_words, .ref q_used, v_last, v_shape, .ref q_dirty, .int 0, .int x4.1, .int x4.2.1, .int x4.2.2]))]) (fun x4 => [(q_this, .inr (2, [.int s_sets, .int s_ways, .int s_weighed, .int s_plain, .ref q_memory, .ref q_words, .ref q_used, v_last, v_shape, .ref q_dirty, .int 0, .int x4.1, .int x4.2.1, .int x4.2.2])), (q_a1, .inr (1, [.int s_a1_sets, .int s_a1_ways, .int s_a1_weighed, .int s_a1_linesTold, v_a1_toldAlready, .ref q_a1_memory, .int s_a1_steps, v_a1_stepSpot, v_a1_stepWord, .int s_a1_unsure, .ref q_a1_unsureSpot, .ref q_a1_unsureWord, .int s_a1_seen, v_a1_seenStep, v_a1_seenHit, .int s_a1_fitsKnown, .int s_a1_fitBits])), (q_a1_memory, .inl (E.2.1 0, 256, .inl s_a1_memory)), (q_a1_unsureSpot, .inl (E.2.1 0, 4, .inl s_a1_unsureSpot)), (q_a1_unsureWord, .inl (E.2.1 0, 4, .inl s_a1_unsureWord)), (q_dirty, .inl (E.2.1 0, 32, .inl x3)), (q_memory, .inl (E.2.1 0, 256, .inl s_memory)), (q_used, .inl (E.2.1 0, 32, .inl x2)), (q_words, .inl (E.2.1 0, 256, .inl x1))]) (fun x4 => []) [0] [1, 2, 3, 4, 5, 6, 7, 8] hf (fun x4 hx => wX3_countAnew E q_this s_sets s_ways s_weighed s_plain 0 s_hits s_victims s_backs (.ref q_memory) (.ref q_words) (.ref q_used) (v_last) (v_shape) (.ref q_dirty) x4  hx) zy_X3_countAnew zw_442 (by unfold zRm; decide) rfl rfl (fun _ => rfl) (N := 9) (by decide) (fun _ => ⟨rfl, rfl, rfl⟩) rfl rfl rfl (Nat.le_of_ble_eq_true rfl) dX3_begin_140 rfl rfl (fun _ => rfl) (fun x4 hf => ?_)
        have hx := Option.some.inj hf
        exact j_vret hC hR dX3_begin_143 rfl (by rw [← hx])
      · refine j_iload (q := 68) hC dX3_begin_66 rfl 2 rfl ?_
        refine j_iload (q := 70) hC dX3_begin_68 rfl 3 rfl ?_
        refine j_ishr (q := 71) hC dX3_begin_70 rfl hf (fun x5 hf => ?_)
        refine j_iconst (q := 72) (v := 1) hC dX3_begin_71 rfl (by decide) ?_
        refine j_iand (q := 73) hC dX3_begin_72 rfl hf (fun x6 hf => ?_)
        refine j_iconst (q := 74) (v := 1) hC dX3_begin_73 rfl (by decide) ?_
        refine j_icmp_ne (tgt := 96) (q := 77) hC dX3_begin_74 (by decide) rfl hf (fun _ hf => ?_) (fun _ hf => ?_)
        · refine j_iinc (q := 99) (v := 1) hC (fun x7 => [(5, .int x7), (0, .ref q_this), (1, .ref q_a1), (4, .int b4)]) dX3_begin_96 rfl 3 rfl (by decide) (by decide) (fun _ => rfl) hf (fun x7 hf => ?_)
          refine j_goto (tgt := 57) hC dX3_begin_99 (by decide) ?_
          refine j_sub (lv' := [(0, .ref q_this), (1, .ref q_a1), (4, .int b4), (5, .int x7)]) [1, 2, 3, 0] rfl ?_
          exact ih b4 x7 s_sets s_ways s_weighed s_plain s_clock s_hits s_victims s_backs s_dirty s_memory s_used s_words hf
        · refine j_aload_n (q := 78) hC dX3_begin_77 rfl rfl 0 rfl ?_
          refine j_get (q := 81) hC zcl_X3 0 4 zw_169 ⟨rfl, rfl, by decide⟩ rfl rfl dX3_begin_78 rfl ?_
          refine j_aload_n (q := 82) hC dX3_begin_81 rfl rfl 1 rfl ?_
          refine j_getN (q := 85) hC zcl_X1 1 10 zn_69 ⟨rfl, rfl, by decide⟩ rfl rfl dX3_begin_82 rfl ?_
          refine j_iload (q := 87) hC dX3_begin_85 rfl 3 rfl ?_
          refine j_iald (q := 88) hC 3 rfl dX3_begin_87 rfl hf (fun x8 hf => ?_)
          refine j_aload_n (q := 89) hC dX3_begin_88 rfl rfl 1 rfl ?_
          refine j_getN (q := 92) hC zcl_X1 1 11 zn_72 ⟨rfl, rfl, by decide⟩ rfl rfl dX3_begin_89 rfl ?_
          refine j_iload (q := 94) hC dX3_begin_92 rfl 3 rfl ?_
          refine j_iald (q := 95) hC 4 rfl dX3_begin_94 rfl hf (fun x9 hf => ?_)
          refine j_iast (q := 96) hC (fun x10 => [(q_this, .inr (2, [.int s_sets, .int s_ways, .int s_weighed, .int s_plain, .ref q_memory, .ref q_words, .ref q_used, v_last, v_shape, .ref q_dirty, .int s_clock, .int s_hits, .int s_victims, .int s_backs])), (q_a1, .inr (1, [.int s_a1_sets, .int s_a1_ways, .int s_a1_weighed, .int s_a1_linesTold, v_a1_toldAlready, .ref q_a1_memory, .int s_a1_steps, v_a1_stepSpot, v_a1_stepWord, .int s_a1_unsure, .ref q_a1_unsureSpot, .ref q_a1_unsureWord, .int s_a1_seen, v_a1_seenStep, v_a1_seenHit, .int s_a1_fitsKnown, .int s_a1_fitBits])), (q_a1_memory, .inl (E.2.1 0, 256, .inl s_a1_memory)), (q_a1_unsureSpot, .inl (E.2.1 0, 4, .inl s_a1_unsureSpot)), (q_a1_unsureWord, .inl (E.2.1 0, 4, .inl s_a1_unsureWord)), (q_dirty, .inl (E.2.1 0, 32, .inl s_dirty)), (q_memory, .inl (E.2.1 0, 256, .inl x10)), (q_used, .inl (E.2.1 0, 32, .inl s_used)), (q_words, .inl (E.2.1 0, 256, .inl s_words))]) 6 rfl (fun _ => rfl) dX3_begin_95 rfl hf (fun x10 hf => ?_)
          refine j_iinc (q := 99) (v := 1) hC (fun x11 => [(5, .int x11), (0, .ref q_this), (1, .ref q_a1), (4, .int b4)]) dX3_begin_96 rfl 3 rfl (by decide) (by decide) (fun _ => rfl) hf (fun x11 hf => ?_)
          refine j_goto (tgt := 57) hC dX3_begin_99 (by decide) ?_
          refine j_sub (lv' := [(0, .ref q_this), (1, .ref q_a1), (4, .int b4), (5, .int x11)]) [1, 2, 3, 0] rfl ?_
          exact ih b4 x11 s_sets s_ways s_weighed s_plain s_clock s_hits s_victims s_backs s_dirty x10 s_used s_words hf
  have B35 : ∀ (b4 : Int32) (t0 : Int32) (s_sets : Int32) (s_ways : Int32) (s_weighed : Int32) (s_plain : Int32) (s_clock : Int32) (s_hits : Int32) (s_victims : Int32) (s_backs : Int32) (s_dirty : (Nat → Int32)) (s_memory : (Nat → Int32)) (s_used : (Nat → Int32)) (s_words : (Nat → Int32)), fX3_begin_35 s_a1_sets s_a1_weighed s_a1_unsure s_a1_memory s_a1_unsureSpot s_a1_unsureWord  b4 t0 s_sets s_ways s_weighed s_plain s_clock s_hits s_victims s_backs s_dirty s_memory s_used s_words = some x → J C 0 0 [(q_this, .inr (2, [.int s_sets, .int s_ways, .int s_weighed, .int s_plain, .ref q_memory, .ref q_words, .ref q_used, v_last, v_shape, .ref q_dirty, .int s_clock, .int s_hits, .int s_victims, .int s_backs])), (q_a1, .inr (1, [.int s_a1_sets, .int s_a1_ways, .int s_a1_weighed, .int s_a1_linesTold, v_a1_toldAlready, .ref q_a1_memory, .int s_a1_steps, v_a1_stepSpot, v_a1_stepWord, .int s_a1_unsure, .ref q_a1_unsureSpot, .ref q_a1_unsureWord, .int s_a1_seen, v_a1_seenStep, v_a1_seenHit, .int s_a1_fitsKnown, .int s_a1_fitBits])), (q_a1_memory, .inl (E.2.1 0, 256, .inl s_a1_memory)), (q_a1_unsureSpot, .inl (E.2.1 0, 4, .inl s_a1_unsureSpot)), (q_a1_unsureWord, .inl (E.2.1 0, 4, .inl s_a1_unsureWord)), (q_dirty, .inl (E.2.1 0, 32, .inl s_dirty)), (q_memory, .inl (E.2.1 0, 256, .inl s_memory)), (q_used, .inl (E.2.1 0, 32, .inl s_used)), (q_words, .inl (E.2.1 0, 256, .inl s_words))] [(0, .ref q_this), (1, .ref q_a1), (4, .int b4)] 35 [.int t0, .ref q_this] := by
    intro  b4 t0 s_sets s_ways s_weighed s_plain s_clock s_hits s_victims s_backs s_dirty s_memory s_used s_words hf
    unfold fX3_begin_35 at hf
    obtain ⟨hz, hf⟩ := zbl_s hf
    refine j_put (q := 38) (host := "") hC zcl_X3 0 2 (ws' := [(q_this, .inr (2, [.int s_sets, .int s_ways, .int t0, .int s_plain, .ref q_memory, .ref q_words, .ref q_used, v_last, v_shape, .ref q_dirty, .int s_clock, .int s_hits, .int s_victims, .int s_backs])), (q_a1, .inr (1, [.int s_a1_sets, .int s_a1_ways, .int s_a1_weighed, .int s_a1_linesTold, v_a1_toldAlready, .ref q_a1_memory, .int s_a1_steps, v_a1_stepSpot, v_a1_stepWord, .int s_a1_unsure, .ref q_a1_unsureSpot, .ref q_a1_unsureWord, .int s_a1_seen, v_a1_seenStep, v_a1_seenHit, .int s_a1_fitsKnown, .int s_a1_fitBits])), (q_a1_memory, .inl (E.2.1 0, 256, .inl s_a1_memory)), (q_a1_unsureSpot, .inl (E.2.1 0, 4, .inl s_a1_unsureSpot)), (q_a1_unsureWord, .inl (E.2.1 0, 4, .inl s_a1_unsureWord)), (q_dirty, .inl (E.2.1 0, 32, .inl s_dirty)), (q_memory, .inl (E.2.1 0, 256, .inl s_memory)), (q_used, .inl (E.2.1 0, 32, .inl s_used)), (q_words, .inl (E.2.1 0, 256, .inl s_words))]) zw_167 ⟨rfl, rfl, by decide, rfl⟩ (zbl_n hz) (zbl_f hz) rfl (Nat.le_of_ble_eq_true rfl) rfl dX3_begin_35 rfl ?_
    refine j_aload_n (q := 39) hC dX3_begin_38 rfl rfl 1 rfl ?_
    refine j_getN (q := 42) hC zcl_X1 1 5 zn_52 ⟨rfl, rfl, by decide⟩ rfl rfl dX3_begin_39 rfl ?_
    refine j_iconst (q := 43) (v := 0) hC dX3_begin_42 rfl (by decide) ?_
    refine j_aload_n (q := 44) hC dX3_begin_43 rfl rfl 0 rfl ?_
    refine j_get (q := 47) hC zcl_X3 0 4 zw_169 ⟨rfl, rfl, by decide⟩ rfl rfl dX3_begin_44 rfl ?_
    refine j_iconst (q := 48) (v := 0) hC dX3_begin_47 rfl (by decide) ?_
    refine j_sipush (q := 51) (v := 256) hC dX3_begin_48 rfl (by decide) ?_
    refine j_copy (q := 54) hC 2 6 (fun x1 => [(q_this, .inr (2, [.int s_sets, .int s_ways, .int t0, .int s_plain, .ref q_memory, .ref q_words, .ref q_used, v_last, v_shape, .ref q_dirty, .int s_clock, .int s_hits, .int s_victims, .int s_backs])), (q_a1, .inr (1, [.int s_a1_sets, .int s_a1_ways, .int s_a1_weighed, .int s_a1_linesTold, v_a1_toldAlready, .ref q_a1_memory, .int s_a1_steps, v_a1_stepSpot, v_a1_stepWord, .int s_a1_unsure, .ref q_a1_unsureSpot, .ref q_a1_unsureWord, .int s_a1_seen, v_a1_seenStep, v_a1_seenHit, .int s_a1_fitsKnown, .int s_a1_fitBits])), (q_a1_memory, .inl (E.2.1 0, 256, .inl s_a1_memory)), (q_a1_unsureSpot, .inl (E.2.1 0, 4, .inl s_a1_unsureSpot)), (q_a1_unsureWord, .inl (E.2.1 0, 4, .inl s_a1_unsureWord)), (q_dirty, .inl (E.2.1 0, 32, .inl s_dirty)), (q_memory, .inl (E.2.1 0, 256, .inl x1)), (q_used, .inl (E.2.1 0, 32, .inl s_used)), (q_words, .inl (E.2.1 0, 256, .inl s_words))]) rfl rfl (fun _ => rfl) zw_438 zw_acn zw_acs zw_ini_sys ⟨by decide, Nat.le_of_ble_eq_true rfl⟩ dX3_begin_51 rfl hf (fun x1 hf => ?_)
    refine j_iconst (q := 55) (v := 0) hC dX3_begin_54 rfl (by decide) ?_
    refine j_istore (q := 57) (lv' := [(5, .int 0), (0, .ref q_this), (1, .ref q_a1), (4, .int b4)]) hC dX3_begin_55 rfl (by decide) rfl ?_
    refine j_sub (lv' := [(0, .ref q_this), (1, .ref q_a1), (4, .int b4), (5, .int 0)]) [1, 2, 3, 0] rfl ?_
    exact B57  zF b4 0 s_sets s_ways t0 s_plain s_clock s_hits s_victims s_backs s_dirty x1 s_used s_words hf
  have B34 : ∀ (b4 : Int32) (s_sets : Int32) (s_ways : Int32) (s_weighed : Int32) (s_plain : Int32) (s_clock : Int32) (s_hits : Int32) (s_victims : Int32) (s_backs : Int32) (s_dirty : (Nat → Int32)) (s_memory : (Nat → Int32)) (s_used : (Nat → Int32)) (s_words : (Nat → Int32)), fX3_begin_34 s_a1_sets s_a1_weighed s_a1_unsure s_a1_memory s_a1_unsureSpot s_a1_unsureWord  b4 s_sets s_ways s_weighed s_plain s_clock s_hits s_victims s_backs s_dirty s_memory s_used s_words = some x → J C 0 0 [(q_this, .inr (2, [.int s_sets, .int s_ways, .int s_weighed, .int s_plain, .ref q_memory, .ref q_words, .ref q_used, v_last, v_shape, .ref q_dirty, .int s_clock, .int s_hits, .int s_victims, .int s_backs])), (q_a1, .inr (1, [.int s_a1_sets, .int s_a1_ways, .int s_a1_weighed, .int s_a1_linesTold, v_a1_toldAlready, .ref q_a1_memory, .int s_a1_steps, v_a1_stepSpot, v_a1_stepWord, .int s_a1_unsure, .ref q_a1_unsureSpot, .ref q_a1_unsureWord, .int s_a1_seen, v_a1_seenStep, v_a1_seenHit, .int s_a1_fitsKnown, .int s_a1_fitBits])), (q_a1_memory, .inl (E.2.1 0, 256, .inl s_a1_memory)), (q_a1_unsureSpot, .inl (E.2.1 0, 4, .inl s_a1_unsureSpot)), (q_a1_unsureWord, .inl (E.2.1 0, 4, .inl s_a1_unsureWord)), (q_dirty, .inl (E.2.1 0, 32, .inl s_dirty)), (q_memory, .inl (E.2.1 0, 256, .inl s_memory)), (q_used, .inl (E.2.1 0, 32, .inl s_used)), (q_words, .inl (E.2.1 0, 256, .inl s_words))] [(0, .ref q_this), (1, .ref q_a1), (4, .int b4)] 34 [.ref q_this] := by
    intro  b4 s_sets s_ways s_weighed s_plain s_clock s_hits s_victims s_backs s_dirty s_memory s_used s_words hf
    unfold fX3_begin_34 at hf
    refine j_iconst (q := 35) (v := 0) hC dX3_begin_34 rfl (by decide) ?_
    exact B35  b4 0 s_sets s_ways s_weighed s_plain s_clock s_hits s_victims s_backs s_dirty s_memory s_used s_words hf
  unfold fX3_begin at hf
  refine j_sub (lv' := [(0, .ref q_this), (1, .ref q_a1), (2, .int a2), (3, .int a3), (4, .int a4)]) [0, 1, 2, 3, 4] rfl ?_
  refine j_aload_n (q := 1) hC dX3_begin_0 rfl rfl 0 rfl ?_
  refine j_aload_n (q := 2) hC dX3_begin_1 rfl rfl 1 rfl ?_
  refine j_getN (q := 5) hC zcl_X1 1 0 zn_36 ⟨rfl, rfl, by decide⟩ rfl rfl dX3_begin_2 rfl ?_
  refine j_put (q := 8) (host := "") hC zcl_X3 0 0 (ws' := [(q_this, .inr (2, [.int s_a1_sets, .int s_ways, .int s_weighed, .int s_plain, .ref q_memory, .ref q_words, .ref q_used, v_last, v_shape, .ref q_dirty, .int s_clock, .int s_hits, .int s_victims, .int s_backs])), (q_a1, .inr (1, [.int s_a1_sets, .int s_a1_ways, .int s_a1_weighed, .int s_a1_linesTold, v_a1_toldAlready, .ref q_a1_memory, .int s_a1_steps, v_a1_stepSpot, v_a1_stepWord, .int s_a1_unsure, .ref q_a1_unsureSpot, .ref q_a1_unsureWord, .int s_a1_seen, v_a1_seenStep, v_a1_seenHit, .int s_a1_fitsKnown, .int s_a1_fitBits])), (q_a1_memory, .inl (E.2.1 0, 256, .inl s_a1_memory)), (q_a1_unsureSpot, .inl (E.2.1 0, 4, .inl s_a1_unsureSpot)), (q_a1_unsureWord, .inl (E.2.1 0, 4, .inl s_a1_unsureWord)), (q_dirty, .inl (E.2.1 0, 32, .inl s_dirty)), (q_memory, .inl (E.2.1 0, 256, .inl s_memory)), (q_used, .inl (E.2.1 0, 32, .inl s_used)), (q_words, .inl (E.2.1 0, 256, .inl s_words))]) zw_165 ⟨rfl, rfl, by decide, rfl⟩ rfl rfl rfl (Nat.le_of_ble_eq_true rfl) rfl dX3_begin_5 rfl ?_
  refine j_aload_n (q := 9) hC dX3_begin_8 rfl rfl 0 rfl ?_
  refine j_iload_n (q := 10) hC dX3_begin_9 rfl rfl 2 rfl ?_
  refine j_put (q := 13) (host := "") hC zcl_X3 0 1 (ws' := [(q_this, .inr (2, [.int s_a1_sets, .int a2, .int s_weighed, .int s_plain, .ref q_memory, .ref q_words, .ref q_used, v_last, v_shape, .ref q_dirty, .int s_clock, .int s_hits, .int s_victims, .int s_backs])), (q_a1, .inr (1, [.int s_a1_sets, .int s_a1_ways, .int s_a1_weighed, .int s_a1_linesTold, v_a1_toldAlready, .ref q_a1_memory, .int s_a1_steps, v_a1_stepSpot, v_a1_stepWord, .int s_a1_unsure, .ref q_a1_unsureSpot, .ref q_a1_unsureWord, .int s_a1_seen, v_a1_seenStep, v_a1_seenHit, .int s_a1_fitsKnown, .int s_a1_fitBits])), (q_a1_memory, .inl (E.2.1 0, 256, .inl s_a1_memory)), (q_a1_unsureSpot, .inl (E.2.1 0, 4, .inl s_a1_unsureSpot)), (q_a1_unsureWord, .inl (E.2.1 0, 4, .inl s_a1_unsureWord)), (q_dirty, .inl (E.2.1 0, 32, .inl s_dirty)), (q_memory, .inl (E.2.1 0, 256, .inl s_memory)), (q_used, .inl (E.2.1 0, 32, .inl s_used)), (q_words, .inl (E.2.1 0, 256, .inl s_words))]) zw_166 ⟨rfl, rfl, by decide, rfl⟩ rfl rfl rfl (Nat.le_of_ble_eq_true rfl) rfl dX3_begin_10 rfl ?_
  refine j_aload_n (q := 14) hC dX3_begin_13 rfl rfl 0 rfl ?_
  refine j_iload_n (q := 15) hC dX3_begin_14 rfl rfl 3 rfl ?_
  obtain ⟨hz, hf⟩ := zbl_s hf
  refine j_put (q := 18) (host := "") hC zcl_X3 0 3 (ws' := [(q_this, .inr (2, [.int s_a1_sets, .int a2, .int s_weighed, .int a3, .ref q_memory, .ref q_words, .ref q_used, v_last, v_shape, .ref q_dirty, .int s_clock, .int s_hits, .int s_victims, .int s_backs])), (q_a1, .inr (1, [.int s_a1_sets, .int s_a1_ways, .int s_a1_weighed, .int s_a1_linesTold, v_a1_toldAlready, .ref q_a1_memory, .int s_a1_steps, v_a1_stepSpot, v_a1_stepWord, .int s_a1_unsure, .ref q_a1_unsureSpot, .ref q_a1_unsureWord, .int s_a1_seen, v_a1_seenStep, v_a1_seenHit, .int s_a1_fitsKnown, .int s_a1_fitBits])), (q_a1_memory, .inl (E.2.1 0, 256, .inl s_a1_memory)), (q_a1_unsureSpot, .inl (E.2.1 0, 4, .inl s_a1_unsureSpot)), (q_a1_unsureWord, .inl (E.2.1 0, 4, .inl s_a1_unsureWord)), (q_dirty, .inl (E.2.1 0, 32, .inl s_dirty)), (q_memory, .inl (E.2.1 0, 256, .inl s_memory)), (q_used, .inl (E.2.1 0, 32, .inl s_used)), (q_words, .inl (E.2.1 0, 256, .inl s_words))]) zw_168 ⟨rfl, rfl, by decide, rfl⟩ (zbl_n hz) (zbl_f hz) rfl (Nat.le_of_ble_eq_true rfl) rfl dX3_begin_15 rfl ?_
  refine j_aload_n (q := 19) hC dX3_begin_18 rfl rfl 0 rfl ?_
  refine j_aload_n (q := 20) hC dX3_begin_19 rfl rfl 1 rfl ?_
  refine j_getN (q := 23) hC zcl_X1 1 2 zn_43 ⟨rfl, rfl, by decide⟩ rfl rfl dX3_begin_20 rfl ?_
  refine j_if_eq (tgt := 34) (q := 26) hC dX3_begin_23 (by decide) rfl hf (fun _ hf => ?_) (fun _ hf => ?_)
  · refine j_sub (lv' := [(0, .ref q_this), (1, .ref q_a1), (4, .int a4)]) [0, 1, 4] rfl ?_
    exact B34  a4 s_a1_sets a2 s_weighed a3 s_clock s_hits s_victims s_backs s_dirty s_memory s_used s_words hf
  · refine j_iload_n (q := 27) hC dX3_begin_26 rfl rfl 3 rfl ?_
    refine j_if_ne (tgt := 34) (q := 30) hC dX3_begin_27 (by decide) rfl hf (fun _ hf => ?_) (fun _ hf => ?_)
    · refine j_sub (lv' := [(0, .ref q_this), (1, .ref q_a1), (4, .int a4)]) [0, 1, 4] rfl ?_
      exact B34  a4 s_a1_sets a2 s_weighed a3 s_clock s_hits s_victims s_backs s_dirty s_memory s_used s_words hf
    · refine j_iconst (q := 31) (v := 1) hC dX3_begin_30 rfl (by decide) ?_
      refine j_goto (tgt := 35) hC dX3_begin_31 (by decide) ?_
      refine j_sub (lv' := [(0, .ref q_this), (1, .ref q_a1), (4, .int a4)]) [0, 1, 4] rfl ?_
      exact B35  a4 1 s_a1_sets a2 s_weighed a3 s_clock s_hits s_victims s_backs s_dirty s_memory s_used s_words hf
noncomputable def fX3_copyOf (s_sets : Int32) (s_ways : Int32) (s_weighed : Int32) (s_plain : Int32) (s_clock : Int32) (s_hits : Int32) (s_victims : Int32) (s_backs : Int32) (s_a1_sets : Int32) (s_a1_ways : Int32) (s_a1_weighed : Int32) (s_a1_plain : Int32) (s_a1_clock : Int32) (s_a1_dirty : (Nat → Int32)) (s_a1_last : (Nat → Int32)) (s_a1_memory : (Nat → Int32)) (s_a1_shape : (Nat → Int32)) (s_a1_used : (Nat → Int32)) (s_a1_words : (Nat → Int32)) (s_dirty : (Nat → Int32)) (s_last : (Nat → Int32)) (s_memory : (Nat → Int32)) (s_shape : (Nat → Int32)) (s_used : (Nat → Int32)) (s_words : (Nat → Int32)) : Option (Int32 × Int32 × Int32 × Int32 × Int32 × Int32 × Int32 × Int32 × (Nat → Int32) × (Nat → Int32) × (Nat → Int32) × (Nat → Int32) × (Nat → Int32) × (Nat → Int32)) :=
  zbl s_a1_plain (
    zbl s_a1_weighed (
    zcpy s_a1_memory s_memory 256 256 0 0 256 fun x1 =>
    zcpy s_a1_words s_words 256 256 0 0 256 fun x2 =>
    zcpy s_a1_used s_used 32 32 0 0 32 fun x3 =>
    zcpy s_a1_last s_last 32 32 0 0 32 fun x4 =>
    zcpy s_a1_shape s_shape 32 32 0 0 32 fun x5 =>
    zcpy s_a1_dirty s_dirty 32 32 0 0 32 fun x6 =>
    (fX3_countAnew s_hits s_victims s_backs).bind fun x7 =>
    some (s_a1_sets, s_a1_ways, s_a1_weighed, s_a1_plain, s_a1_clock, x7.1, x7.2.1, x7.2.2, x6, x4, x1, x5, x3, x2)))
set_option maxHeartbeats 4000000 in
set_option maxRecDepth 100000 in
theorem wX3_copyOf (E : zE) (q_this : Nat) (q_a1 : Nat) (q_a1_dirty : Nat) (q_a1_last : Nat) (q_a1_memory : Nat) (q_a1_shape : Nat) (q_a1_used : Nat) (q_a1_words : Nat) (q_dirty : Nat) (q_last : Nat) (q_memory : Nat) (q_shape : Nat) (q_used : Nat) (q_words : Nat) (s_sets : Int32) (s_ways : Int32) (s_weighed : Int32) (s_plain : Int32) (s_clock : Int32) (s_hits : Int32) (s_victims : Int32) (s_backs : Int32) (s_a1_sets : Int32) (s_a1_ways : Int32) (s_a1_weighed : Int32) (s_a1_plain : Int32) (s_a1_clock : Int32) (s_a1_hits : Int32) (s_a1_victims : Int32) (s_a1_backs : Int32) (s_a1_dirty : (Nat → Int32)) (s_a1_last : (Nat → Int32)) (s_a1_memory : (Nat → Int32)) (s_a1_shape : (Nat → Int32)) (s_a1_used : (Nat → Int32)) (s_a1_words : (Nat → Int32)) (s_dirty : (Nat → Int32)) (s_last : (Nat → Int32)) (s_memory : (Nat → Int32)) (s_shape : (Nat → Int32)) (s_used : (Nat → Int32)) (s_words : (Nat → Int32)) (x : Int32 × Int32 × Int32 × Int32 × Int32 × Int32 × Int32 × Int32 × (Nat → Int32) × (Nat → Int32) × (Nat → Int32) × (Nat → Int32) × (Nat → Int32) × (Nat → Int32)) (hf : fX3_copyOf s_sets s_ways s_weighed s_plain s_clock s_hits s_victims s_backs s_a1_sets s_a1_ways s_a1_weighed s_a1_plain s_a1_clock s_a1_dirty s_a1_last s_a1_memory s_a1_shape s_a1_used s_a1_words s_dirty s_last s_memory s_shape s_used s_words = some x) (l : Launch) (sz : Nat) : zM l yX3_copyOf cX3_copyOf 2 none { frames := 1, cells := 0, slots := 0, locals := 26 } E [.ref q_this, .ref q_a1] [(q_this, .inr (2, [.int s_sets, .int s_ways, .int s_weighed, .int s_plain, .ref q_memory, .ref q_words, .ref q_used, .ref q_last, .ref q_shape, .ref q_dirty, .int s_clock, .int s_hits, .int s_victims, .int s_backs])), (q_a1, .inr (2, [.int s_a1_sets, .int s_a1_ways, .int s_a1_weighed, .int s_a1_plain, .ref q_a1_memory, .ref q_a1_words, .ref q_a1_used, .ref q_a1_last, .ref q_a1_shape, .ref q_a1_dirty, .int s_a1_clock, .int s_a1_hits, .int s_a1_victims, .int s_a1_backs])), (q_a1_dirty, .inl (E.2.1 0, 32, .inl s_a1_dirty)), (q_a1_last, .inl (E.2.1 0, 32, .inl s_a1_last)), (q_a1_memory, .inl (E.2.1 0, 256, .inl s_a1_memory)), (q_a1_shape, .inl (E.2.1 0, 32, .inl s_a1_shape)), (q_a1_used, .inl (E.2.1 0, 32, .inl s_a1_used)), (q_a1_words, .inl (E.2.1 0, 256, .inl s_a1_words)), (q_dirty, .inl (E.2.1 0, 32, .inl s_dirty)), (q_last, .inl (E.2.1 0, 32, .inl s_last)), (q_memory, .inl (E.2.1 0, 256, .inl s_memory)), (q_shape, .inl (E.2.1 0, 32, .inl s_shape)), (q_used, .inl (E.2.1 0, 32, .inl s_used)), (q_words, .inl (E.2.1 0, 256, .inl s_words))] sz none [(q_this, .inr (2, [.int x.1, .int x.2.1, .int x.2.2.1, .int x.2.2.2.1, .ref q_memory, .ref q_words, .ref q_used, .ref q_last, .ref q_shape, .ref q_dirty, .int x.2.2.2.2.1, .int x.2.2.2.2.2.1, .int x.2.2.2.2.2.2.1, .int x.2.2.2.2.2.2.2.1])), (q_a1, .inr (2, [.int s_a1_sets, .int s_a1_ways, .int s_a1_weighed, .int s_a1_plain, .ref q_a1_memory, .ref q_a1_words, .ref q_a1_used, .ref q_a1_last, .ref q_a1_shape, .ref q_a1_dirty, .int s_a1_clock, .int s_a1_hits, .int s_a1_victims, .int s_a1_backs])), (q_a1_dirty, .inl (E.2.1 0, 32, .inl s_a1_dirty)), (q_a1_last, .inl (E.2.1 0, 32, .inl s_a1_last)), (q_a1_memory, .inl (E.2.1 0, 256, .inl s_a1_memory)), (q_a1_shape, .inl (E.2.1 0, 32, .inl s_a1_shape)), (q_a1_used, .inl (E.2.1 0, 32, .inl s_a1_used)), (q_a1_words, .inl (E.2.1 0, 256, .inl s_a1_words)), (q_dirty, .inl (E.2.1 0, 32, .inl x.2.2.2.2.2.2.2.2.1)), (q_last, .inl (E.2.1 0, 32, .inl x.2.2.2.2.2.2.2.2.2.1)), (q_memory, .inl (E.2.1 0, 256, .inl x.2.2.2.2.2.2.2.2.2.2.1)), (q_shape, .inl (E.2.1 0, 32, .inl x.2.2.2.2.2.2.2.2.2.2.2.1)), (q_used, .inl (E.2.1 0, 32, .inl x.2.2.2.2.2.2.2.2.2.2.2.2.1)), (q_words, .inl (E.2.1 0, 256, .inl x.2.2.2.2.2.2.2.2.2.2.2.2.2))] := by
  refine zEnter (by decide) (Nat.le_of_ble_eq_true rfl) ?_
  intro C hC hR
  change zC C E cX3_copyOf "PackedCache$Store" 2 _ at hC
  unfold fX3_copyOf at hf
  refine j_sub (lv' := [(0, .ref q_this), (1, .ref q_a1)]) [0, 1] rfl ?_
  refine j_aload_n (q := 1) hC dX3_copyOf_0 rfl rfl 0 rfl ?_
  refine j_aload_n (q := 2) hC dX3_copyOf_1 rfl rfl 1 rfl ?_
  refine j_get (q := 5) hC zcl_X3 1 0 zw_165 ⟨rfl, rfl, by decide⟩ rfl rfl dX3_copyOf_2 rfl ?_
  refine j_put (q := 8) (host := "") hC zcl_X3 0 0 (ws' := [(q_this, .inr (2, [.int s_a1_sets, .int s_ways, .int s_weighed, .int s_plain, .ref q_memory, .ref q_words, .ref q_used, .ref q_last, .ref q_shape, .ref q_dirty, .int s_clock, .int s_hits, .int s_victims, .int s_backs])), (q_a1, .inr (2, [.int s_a1_sets, .int s_a1_ways, .int s_a1_weighed, .int s_a1_plain, .ref q_a1_memory, .ref q_a1_words, .ref q_a1_used, .ref q_a1_last, .ref q_a1_shape, .ref q_a1_dirty, .int s_a1_clock, .int s_a1_hits, .int s_a1_victims, .int s_a1_backs])), (q_a1_dirty, .inl (E.2.1 0, 32, .inl s_a1_dirty)), (q_a1_last, .inl (E.2.1 0, 32, .inl s_a1_last)), (q_a1_memory, .inl (E.2.1 0, 256, .inl s_a1_memory)), (q_a1_shape, .inl (E.2.1 0, 32, .inl s_a1_shape)), (q_a1_used, .inl (E.2.1 0, 32, .inl s_a1_used)), (q_a1_words, .inl (E.2.1 0, 256, .inl s_a1_words)), (q_dirty, .inl (E.2.1 0, 32, .inl s_dirty)), (q_last, .inl (E.2.1 0, 32, .inl s_last)), (q_memory, .inl (E.2.1 0, 256, .inl s_memory)), (q_shape, .inl (E.2.1 0, 32, .inl s_shape)), (q_used, .inl (E.2.1 0, 32, .inl s_used)), (q_words, .inl (E.2.1 0, 256, .inl s_words))]) zw_165 ⟨rfl, rfl, by decide, rfl⟩ rfl rfl rfl (Nat.le_of_ble_eq_true rfl) rfl dX3_copyOf_5 rfl ?_
  refine j_aload_n (q := 9) hC dX3_copyOf_8 rfl rfl 0 rfl ?_
  refine j_aload_n (q := 10) hC dX3_copyOf_9 rfl rfl 1 rfl ?_
  refine j_get (q := 13) hC zcl_X3 1 1 zw_166 ⟨rfl, rfl, by decide⟩ rfl rfl dX3_copyOf_10 rfl ?_
  refine j_put (q := 16) (host := "") hC zcl_X3 0 1 (ws' := [(q_this, .inr (2, [.int s_a1_sets, .int s_a1_ways, .int s_weighed, .int s_plain, .ref q_memory, .ref q_words, .ref q_used, .ref q_last, .ref q_shape, .ref q_dirty, .int s_clock, .int s_hits, .int s_victims, .int s_backs])), (q_a1, .inr (2, [.int s_a1_sets, .int s_a1_ways, .int s_a1_weighed, .int s_a1_plain, .ref q_a1_memory, .ref q_a1_words, .ref q_a1_used, .ref q_a1_last, .ref q_a1_shape, .ref q_a1_dirty, .int s_a1_clock, .int s_a1_hits, .int s_a1_victims, .int s_a1_backs])), (q_a1_dirty, .inl (E.2.1 0, 32, .inl s_a1_dirty)), (q_a1_last, .inl (E.2.1 0, 32, .inl s_a1_last)), (q_a1_memory, .inl (E.2.1 0, 256, .inl s_a1_memory)), (q_a1_shape, .inl (E.2.1 0, 32, .inl s_a1_shape)), (q_a1_used, .inl (E.2.1 0, 32, .inl s_a1_used)), (q_a1_words, .inl (E.2.1 0, 256, .inl s_a1_words)), (q_dirty, .inl (E.2.1 0, 32, .inl s_dirty)), (q_last, .inl (E.2.1 0, 32, .inl s_last)), (q_memory, .inl (E.2.1 0, 256, .inl s_memory)), (q_shape, .inl (E.2.1 0, 32, .inl s_shape)), (q_used, .inl (E.2.1 0, 32, .inl s_used)), (q_words, .inl (E.2.1 0, 256, .inl s_words))]) zw_166 ⟨rfl, rfl, by decide, rfl⟩ rfl rfl rfl (Nat.le_of_ble_eq_true rfl) rfl dX3_copyOf_13 rfl ?_
  refine j_aload_n (q := 17) hC dX3_copyOf_16 rfl rfl 0 rfl ?_
  refine j_aload_n (q := 18) hC dX3_copyOf_17 rfl rfl 1 rfl ?_
  refine j_get (q := 21) hC zcl_X3 1 3 zw_168 ⟨rfl, rfl, by decide⟩ rfl rfl dX3_copyOf_18 rfl ?_
  obtain ⟨hz, hf⟩ := zbl_s hf
  refine j_put (q := 24) (host := "") hC zcl_X3 0 3 (ws' := [(q_this, .inr (2, [.int s_a1_sets, .int s_a1_ways, .int s_weighed, .int s_a1_plain, .ref q_memory, .ref q_words, .ref q_used, .ref q_last, .ref q_shape, .ref q_dirty, .int s_clock, .int s_hits, .int s_victims, .int s_backs])), (q_a1, .inr (2, [.int s_a1_sets, .int s_a1_ways, .int s_a1_weighed, .int s_a1_plain, .ref q_a1_memory, .ref q_a1_words, .ref q_a1_used, .ref q_a1_last, .ref q_a1_shape, .ref q_a1_dirty, .int s_a1_clock, .int s_a1_hits, .int s_a1_victims, .int s_a1_backs])), (q_a1_dirty, .inl (E.2.1 0, 32, .inl s_a1_dirty)), (q_a1_last, .inl (E.2.1 0, 32, .inl s_a1_last)), (q_a1_memory, .inl (E.2.1 0, 256, .inl s_a1_memory)), (q_a1_shape, .inl (E.2.1 0, 32, .inl s_a1_shape)), (q_a1_used, .inl (E.2.1 0, 32, .inl s_a1_used)), (q_a1_words, .inl (E.2.1 0, 256, .inl s_a1_words)), (q_dirty, .inl (E.2.1 0, 32, .inl s_dirty)), (q_last, .inl (E.2.1 0, 32, .inl s_last)), (q_memory, .inl (E.2.1 0, 256, .inl s_memory)), (q_shape, .inl (E.2.1 0, 32, .inl s_shape)), (q_used, .inl (E.2.1 0, 32, .inl s_used)), (q_words, .inl (E.2.1 0, 256, .inl s_words))]) zw_168 ⟨rfl, rfl, by decide, rfl⟩ (zbl_n hz) (zbl_f hz) rfl (Nat.le_of_ble_eq_true rfl) rfl dX3_copyOf_21 rfl ?_
  refine j_aload_n (q := 25) hC dX3_copyOf_24 rfl rfl 0 rfl ?_
  refine j_aload_n (q := 26) hC dX3_copyOf_25 rfl rfl 1 rfl ?_
  refine j_get (q := 29) hC zcl_X3 1 2 zw_167 ⟨rfl, rfl, by decide⟩ rfl rfl dX3_copyOf_26 rfl ?_
  obtain ⟨hz, hf⟩ := zbl_s hf
  refine j_put (q := 32) (host := "") hC zcl_X3 0 2 (ws' := [(q_this, .inr (2, [.int s_a1_sets, .int s_a1_ways, .int s_a1_weighed, .int s_a1_plain, .ref q_memory, .ref q_words, .ref q_used, .ref q_last, .ref q_shape, .ref q_dirty, .int s_clock, .int s_hits, .int s_victims, .int s_backs])), (q_a1, .inr (2, [.int s_a1_sets, .int s_a1_ways, .int s_a1_weighed, .int s_a1_plain, .ref q_a1_memory, .ref q_a1_words, .ref q_a1_used, .ref q_a1_last, .ref q_a1_shape, .ref q_a1_dirty, .int s_a1_clock, .int s_a1_hits, .int s_a1_victims, .int s_a1_backs])), (q_a1_dirty, .inl (E.2.1 0, 32, .inl s_a1_dirty)), (q_a1_last, .inl (E.2.1 0, 32, .inl s_a1_last)), (q_a1_memory, .inl (E.2.1 0, 256, .inl s_a1_memory)), (q_a1_shape, .inl (E.2.1 0, 32, .inl s_a1_shape)), (q_a1_used, .inl (E.2.1 0, 32, .inl s_a1_used)), (q_a1_words, .inl (E.2.1 0, 256, .inl s_a1_words)), (q_dirty, .inl (E.2.1 0, 32, .inl s_dirty)), (q_last, .inl (E.2.1 0, 32, .inl s_last)), (q_memory, .inl (E.2.1 0, 256, .inl s_memory)), (q_shape, .inl (E.2.1 0, 32, .inl s_shape)), (q_used, .inl (E.2.1 0, 32, .inl s_used)), (q_words, .inl (E.2.1 0, 256, .inl s_words))]) zw_167 ⟨rfl, rfl, by decide, rfl⟩ (zbl_n hz) (zbl_f hz) rfl (Nat.le_of_ble_eq_true rfl) rfl dX3_copyOf_29 rfl ?_
  refine j_aload_n (q := 33) hC dX3_copyOf_32 rfl rfl 1 rfl ?_
  refine j_get (q := 36) hC zcl_X3 1 4 zw_169 ⟨rfl, rfl, by decide⟩ rfl rfl dX3_copyOf_33 rfl ?_
  refine j_iconst (q := 37) (v := 0) hC dX3_copyOf_36 rfl (by decide) ?_
  refine j_aload_n (q := 38) hC dX3_copyOf_37 rfl rfl 0 rfl ?_
  refine j_get (q := 41) hC zcl_X3 0 4 zw_169 ⟨rfl, rfl, by decide⟩ rfl rfl dX3_copyOf_38 rfl ?_
  refine j_iconst (q := 42) (v := 0) hC dX3_copyOf_41 rfl (by decide) ?_
  refine j_sipush (q := 45) (v := 256) hC dX3_copyOf_42 rfl (by decide) ?_
  refine j_copy (q := 48) hC 4 10 (fun x1 => [(q_this, .inr (2, [.int s_a1_sets, .int s_a1_ways, .int s_a1_weighed, .int s_a1_plain, .ref q_memory, .ref q_words, .ref q_used, .ref q_last, .ref q_shape, .ref q_dirty, .int s_clock, .int s_hits, .int s_victims, .int s_backs])), (q_a1, .inr (2, [.int s_a1_sets, .int s_a1_ways, .int s_a1_weighed, .int s_a1_plain, .ref q_a1_memory, .ref q_a1_words, .ref q_a1_used, .ref q_a1_last, .ref q_a1_shape, .ref q_a1_dirty, .int s_a1_clock, .int s_a1_hits, .int s_a1_victims, .int s_a1_backs])), (q_a1_dirty, .inl (E.2.1 0, 32, .inl s_a1_dirty)), (q_a1_last, .inl (E.2.1 0, 32, .inl s_a1_last)), (q_a1_memory, .inl (E.2.1 0, 256, .inl s_a1_memory)), (q_a1_shape, .inl (E.2.1 0, 32, .inl s_a1_shape)), (q_a1_used, .inl (E.2.1 0, 32, .inl s_a1_used)), (q_a1_words, .inl (E.2.1 0, 256, .inl s_a1_words)), (q_dirty, .inl (E.2.1 0, 32, .inl s_dirty)), (q_last, .inl (E.2.1 0, 32, .inl s_last)), (q_memory, .inl (E.2.1 0, 256, .inl x1)), (q_shape, .inl (E.2.1 0, 32, .inl s_shape)), (q_used, .inl (E.2.1 0, 32, .inl s_used)), (q_words, .inl (E.2.1 0, 256, .inl s_words))]) rfl rfl (fun _ => rfl) zw_438 zw_acn zw_acs zw_ini_sys ⟨by decide, Nat.le_of_ble_eq_true rfl⟩ dX3_copyOf_45 rfl hf (fun x1 hf => ?_)
  refine j_aload_n (q := 49) hC dX3_copyOf_48 rfl rfl 1 rfl ?_
  refine j_get (q := 52) hC zcl_X3 1 5 zw_171 ⟨rfl, rfl, by decide⟩ rfl rfl dX3_copyOf_49 rfl ?_
  refine j_iconst (q := 53) (v := 0) hC dX3_copyOf_52 rfl (by decide) ?_
  refine j_aload_n (q := 54) hC dX3_copyOf_53 rfl rfl 0 rfl ?_
  refine j_get (q := 57) hC zcl_X3 0 5 zw_171 ⟨rfl, rfl, by decide⟩ rfl rfl dX3_copyOf_54 rfl ?_
  refine j_iconst (q := 58) (v := 0) hC dX3_copyOf_57 rfl (by decide) ?_
  refine j_sipush (q := 61) (v := 256) hC dX3_copyOf_58 rfl (by decide) ?_
  refine j_copy (q := 64) hC 7 13 (fun x2 => [(q_this, .inr (2, [.int s_a1_sets, .int s_a1_ways, .int s_a1_weighed, .int s_a1_plain, .ref q_memory, .ref q_words, .ref q_used, .ref q_last, .ref q_shape, .ref q_dirty, .int s_clock, .int s_hits, .int s_victims, .int s_backs])), (q_a1, .inr (2, [.int s_a1_sets, .int s_a1_ways, .int s_a1_weighed, .int s_a1_plain, .ref q_a1_memory, .ref q_a1_words, .ref q_a1_used, .ref q_a1_last, .ref q_a1_shape, .ref q_a1_dirty, .int s_a1_clock, .int s_a1_hits, .int s_a1_victims, .int s_a1_backs])), (q_a1_dirty, .inl (E.2.1 0, 32, .inl s_a1_dirty)), (q_a1_last, .inl (E.2.1 0, 32, .inl s_a1_last)), (q_a1_memory, .inl (E.2.1 0, 256, .inl s_a1_memory)), (q_a1_shape, .inl (E.2.1 0, 32, .inl s_a1_shape)), (q_a1_used, .inl (E.2.1 0, 32, .inl s_a1_used)), (q_a1_words, .inl (E.2.1 0, 256, .inl s_a1_words)), (q_dirty, .inl (E.2.1 0, 32, .inl s_dirty)), (q_last, .inl (E.2.1 0, 32, .inl s_last)), (q_memory, .inl (E.2.1 0, 256, .inl x1)), (q_shape, .inl (E.2.1 0, 32, .inl s_shape)), (q_used, .inl (E.2.1 0, 32, .inl s_used)), (q_words, .inl (E.2.1 0, 256, .inl x2))]) rfl rfl (fun _ => rfl) zw_438 zw_acn zw_acs zw_ini_sys ⟨by decide, Nat.le_of_ble_eq_true rfl⟩ dX3_copyOf_61 rfl hf (fun x2 hf => ?_)
  refine j_aload_n (q := 65) hC dX3_copyOf_64 rfl rfl 1 rfl ?_
  refine j_get (q := 68) hC zcl_X3 1 6 zw_173 ⟨rfl, rfl, by decide⟩ rfl rfl dX3_copyOf_65 rfl ?_
  refine j_iconst (q := 69) (v := 0) hC dX3_copyOf_68 rfl (by decide) ?_
  refine j_aload_n (q := 70) hC dX3_copyOf_69 rfl rfl 0 rfl ?_
  refine j_get (q := 73) hC zcl_X3 0 6 zw_173 ⟨rfl, rfl, by decide⟩ rfl rfl dX3_copyOf_70 rfl ?_
  refine j_iconst (q := 74) (v := 0) hC dX3_copyOf_73 rfl (by decide) ?_
  refine j_bipush (q := 76) (v := 32) hC dX3_copyOf_74 rfl (by decide) ?_
  refine j_copy (q := 79) hC 6 12 (fun x3 => [(q_this, .inr (2, [.int s_a1_sets, .int s_a1_ways, .int s_a1_weighed, .int s_a1_plain, .ref q_memory, .ref q_words, .ref q_used, .ref q_last, .ref q_shape, .ref q_dirty, .int s_clock, .int s_hits, .int s_victims, .int s_backs])), (q_a1, .inr (2, [.int s_a1_sets, .int s_a1_ways, .int s_a1_weighed, .int s_a1_plain, .ref q_a1_memory, .ref q_a1_words, .ref q_a1_used, .ref q_a1_last, .ref q_a1_shape, .ref q_a1_dirty, .int s_a1_clock, .int s_a1_hits, .int s_a1_victims, .int s_a1_backs])), (q_a1_dirty, .inl (E.2.1 0, 32, .inl s_a1_dirty)), (q_a1_last, .inl (E.2.1 0, 32, .inl s_a1_last)), (q_a1_memory, .inl (E.2.1 0, 256, .inl s_a1_memory)), (q_a1_shape, .inl (E.2.1 0, 32, .inl s_a1_shape)), (q_a1_used, .inl (E.2.1 0, 32, .inl s_a1_used)), (q_a1_words, .inl (E.2.1 0, 256, .inl s_a1_words)), (q_dirty, .inl (E.2.1 0, 32, .inl s_dirty)), (q_last, .inl (E.2.1 0, 32, .inl s_last)), (q_memory, .inl (E.2.1 0, 256, .inl x1)), (q_shape, .inl (E.2.1 0, 32, .inl s_shape)), (q_used, .inl (E.2.1 0, 32, .inl x3)), (q_words, .inl (E.2.1 0, 256, .inl x2))]) rfl rfl (fun _ => rfl) zw_438 zw_acn zw_acs zw_ini_sys ⟨by decide, Nat.le_of_ble_eq_true rfl⟩ dX3_copyOf_76 rfl hf (fun x3 hf => ?_)
  refine j_aload_n (q := 80) hC dX3_copyOf_79 rfl rfl 1 rfl ?_
  refine j_get (q := 83) hC zcl_X3 1 7 zw_175 ⟨rfl, rfl, by decide⟩ rfl rfl dX3_copyOf_80 rfl ?_
  refine j_iconst (q := 84) (v := 0) hC dX3_copyOf_83 rfl (by decide) ?_
  refine j_aload_n (q := 85) hC dX3_copyOf_84 rfl rfl 0 rfl ?_
  refine j_get (q := 88) hC zcl_X3 0 7 zw_175 ⟨rfl, rfl, by decide⟩ rfl rfl dX3_copyOf_85 rfl ?_
  refine j_iconst (q := 89) (v := 0) hC dX3_copyOf_88 rfl (by decide) ?_
  refine j_bipush (q := 91) (v := 32) hC dX3_copyOf_89 rfl (by decide) ?_
  refine j_copy (q := 94) hC 3 9 (fun x4 => [(q_this, .inr (2, [.int s_a1_sets, .int s_a1_ways, .int s_a1_weighed, .int s_a1_plain, .ref q_memory, .ref q_words, .ref q_used, .ref q_last, .ref q_shape, .ref q_dirty, .int s_clock, .int s_hits, .int s_victims, .int s_backs])), (q_a1, .inr (2, [.int s_a1_sets, .int s_a1_ways, .int s_a1_weighed, .int s_a1_plain, .ref q_a1_memory, .ref q_a1_words, .ref q_a1_used, .ref q_a1_last, .ref q_a1_shape, .ref q_a1_dirty, .int s_a1_clock, .int s_a1_hits, .int s_a1_victims, .int s_a1_backs])), (q_a1_dirty, .inl (E.2.1 0, 32, .inl s_a1_dirty)), (q_a1_last, .inl (E.2.1 0, 32, .inl s_a1_last)), (q_a1_memory, .inl (E.2.1 0, 256, .inl s_a1_memory)), (q_a1_shape, .inl (E.2.1 0, 32, .inl s_a1_shape)), (q_a1_used, .inl (E.2.1 0, 32, .inl s_a1_used)), (q_a1_words, .inl (E.2.1 0, 256, .inl s_a1_words)), (q_dirty, .inl (E.2.1 0, 32, .inl s_dirty)), (q_last, .inl (E.2.1 0, 32, .inl x4)), (q_memory, .inl (E.2.1 0, 256, .inl x1)), (q_shape, .inl (E.2.1 0, 32, .inl s_shape)), (q_used, .inl (E.2.1 0, 32, .inl x3)), (q_words, .inl (E.2.1 0, 256, .inl x2))]) rfl rfl (fun _ => rfl) zw_438 zw_acn zw_acs zw_ini_sys ⟨by decide, Nat.le_of_ble_eq_true rfl⟩ dX3_copyOf_91 rfl hf (fun x4 hf => ?_)
  refine j_aload_n (q := 95) hC dX3_copyOf_94 rfl rfl 1 rfl ?_
  refine j_get (q := 98) hC zcl_X3 1 8 zw_176 ⟨rfl, rfl, by decide⟩ rfl rfl dX3_copyOf_95 rfl ?_
  refine j_iconst (q := 99) (v := 0) hC dX3_copyOf_98 rfl (by decide) ?_
  refine j_aload_n (q := 100) hC dX3_copyOf_99 rfl rfl 0 rfl ?_
  refine j_get (q := 103) hC zcl_X3 0 8 zw_176 ⟨rfl, rfl, by decide⟩ rfl rfl dX3_copyOf_100 rfl ?_
  refine j_iconst (q := 104) (v := 0) hC dX3_copyOf_103 rfl (by decide) ?_
  refine j_bipush (q := 106) (v := 32) hC dX3_copyOf_104 rfl (by decide) ?_
  refine j_copy (q := 109) hC 5 11 (fun x5 => [(q_this, .inr (2, [.int s_a1_sets, .int s_a1_ways, .int s_a1_weighed, .int s_a1_plain, .ref q_memory, .ref q_words, .ref q_used, .ref q_last, .ref q_shape, .ref q_dirty, .int s_clock, .int s_hits, .int s_victims, .int s_backs])), (q_a1, .inr (2, [.int s_a1_sets, .int s_a1_ways, .int s_a1_weighed, .int s_a1_plain, .ref q_a1_memory, .ref q_a1_words, .ref q_a1_used, .ref q_a1_last, .ref q_a1_shape, .ref q_a1_dirty, .int s_a1_clock, .int s_a1_hits, .int s_a1_victims, .int s_a1_backs])), (q_a1_dirty, .inl (E.2.1 0, 32, .inl s_a1_dirty)), (q_a1_last, .inl (E.2.1 0, 32, .inl s_a1_last)), (q_a1_memory, .inl (E.2.1 0, 256, .inl s_a1_memory)), (q_a1_shape, .inl (E.2.1 0, 32, .inl s_a1_shape)), (q_a1_used, .inl (E.2.1 0, 32, .inl s_a1_used)), (q_a1_words, .inl (E.2.1 0, 256, .inl s_a1_words)), (q_dirty, .inl (E.2.1 0, 32, .inl s_dirty)), (q_last, .inl (E.2.1 0, 32, .inl x4)), (q_memory, .inl (E.2.1 0, 256, .inl x1)), (q_shape, .inl (E.2.1 0, 32, .inl x5)), (q_used, .inl (E.2.1 0, 32, .inl x3)), (q_words, .inl (E.2.1 0, 256, .inl x2))]) rfl rfl (fun _ => rfl) zw_438 zw_acn zw_acs zw_ini_sys ⟨by decide, Nat.le_of_ble_eq_true rfl⟩ dX3_copyOf_106 rfl hf (fun x5 hf => ?_)
  refine j_aload_n (q := 110) hC dX3_copyOf_109 rfl rfl 1 rfl ?_
  refine j_get (q := 113) hC zcl_X3 1 9 zw_178 ⟨rfl, rfl, by decide⟩ rfl rfl dX3_copyOf_110 rfl ?_
  refine j_iconst (q := 114) (v := 0) hC dX3_copyOf_113 rfl (by decide) ?_
  refine j_aload_n (q := 115) hC dX3_copyOf_114 rfl rfl 0 rfl ?_
  refine j_get (q := 118) hC zcl_X3 0 9 zw_178 ⟨rfl, rfl, by decide⟩ rfl rfl dX3_copyOf_115 rfl ?_
  refine j_iconst (q := 119) (v := 0) hC dX3_copyOf_118 rfl (by decide) ?_
  refine j_bipush (q := 121) (v := 32) hC dX3_copyOf_119 rfl (by decide) ?_
  refine j_copy (q := 124) hC 2 8 (fun x6 => [(q_this, .inr (2, [.int s_a1_sets, .int s_a1_ways, .int s_a1_weighed, .int s_a1_plain, .ref q_memory, .ref q_words, .ref q_used, .ref q_last, .ref q_shape, .ref q_dirty, .int s_clock, .int s_hits, .int s_victims, .int s_backs])), (q_a1, .inr (2, [.int s_a1_sets, .int s_a1_ways, .int s_a1_weighed, .int s_a1_plain, .ref q_a1_memory, .ref q_a1_words, .ref q_a1_used, .ref q_a1_last, .ref q_a1_shape, .ref q_a1_dirty, .int s_a1_clock, .int s_a1_hits, .int s_a1_victims, .int s_a1_backs])), (q_a1_dirty, .inl (E.2.1 0, 32, .inl s_a1_dirty)), (q_a1_last, .inl (E.2.1 0, 32, .inl s_a1_last)), (q_a1_memory, .inl (E.2.1 0, 256, .inl s_a1_memory)), (q_a1_shape, .inl (E.2.1 0, 32, .inl s_a1_shape)), (q_a1_used, .inl (E.2.1 0, 32, .inl s_a1_used)), (q_a1_words, .inl (E.2.1 0, 256, .inl s_a1_words)), (q_dirty, .inl (E.2.1 0, 32, .inl x6)), (q_last, .inl (E.2.1 0, 32, .inl x4)), (q_memory, .inl (E.2.1 0, 256, .inl x1)), (q_shape, .inl (E.2.1 0, 32, .inl x5)), (q_used, .inl (E.2.1 0, 32, .inl x3)), (q_words, .inl (E.2.1 0, 256, .inl x2))]) rfl rfl (fun _ => rfl) zw_438 zw_acn zw_acs zw_ini_sys ⟨by decide, Nat.le_of_ble_eq_true rfl⟩ dX3_copyOf_121 rfl hf (fun x6 hf => ?_)
  refine j_aload_n (q := 125) hC dX3_copyOf_124 rfl rfl 0 rfl ?_
  refine j_aload_n (q := 126) hC dX3_copyOf_125 rfl rfl 1 rfl ?_
  refine j_get (q := 129) hC zcl_X3 1 10 zw_180 ⟨rfl, rfl, by decide⟩ rfl rfl dX3_copyOf_126 rfl ?_
  refine j_put (q := 132) (host := "") hC zcl_X3 0 10 (ws' := [(q_this, .inr (2, [.int s_a1_sets, .int s_a1_ways, .int s_a1_weighed, .int s_a1_plain, .ref q_memory, .ref q_words, .ref q_used, .ref q_last, .ref q_shape, .ref q_dirty, .int s_a1_clock, .int s_hits, .int s_victims, .int s_backs])), (q_a1, .inr (2, [.int s_a1_sets, .int s_a1_ways, .int s_a1_weighed, .int s_a1_plain, .ref q_a1_memory, .ref q_a1_words, .ref q_a1_used, .ref q_a1_last, .ref q_a1_shape, .ref q_a1_dirty, .int s_a1_clock, .int s_a1_hits, .int s_a1_victims, .int s_a1_backs])), (q_a1_dirty, .inl (E.2.1 0, 32, .inl s_a1_dirty)), (q_a1_last, .inl (E.2.1 0, 32, .inl s_a1_last)), (q_a1_memory, .inl (E.2.1 0, 256, .inl s_a1_memory)), (q_a1_shape, .inl (E.2.1 0, 32, .inl s_a1_shape)), (q_a1_used, .inl (E.2.1 0, 32, .inl s_a1_used)), (q_a1_words, .inl (E.2.1 0, 256, .inl s_a1_words)), (q_dirty, .inl (E.2.1 0, 32, .inl x6)), (q_last, .inl (E.2.1 0, 32, .inl x4)), (q_memory, .inl (E.2.1 0, 256, .inl x1)), (q_shape, .inl (E.2.1 0, 32, .inl x5)), (q_used, .inl (E.2.1 0, 32, .inl x3)), (q_words, .inl (E.2.1 0, 256, .inl x2))]) zw_180 ⟨rfl, rfl, by decide, rfl⟩ rfl rfl rfl (Nat.le_of_ble_eq_true rfl) rfl dX3_copyOf_129 rfl ?_
  refine j_aload_n (q := 133) hC dX3_copyOf_132 rfl rfl 0 rfl ?_
  refine j_callV (q := 136) hC [] [] (fun x7 : Int32 × Int32 × Int32 => none) (fun x7 => [(q_this, .inr (2, [.int s_a1_sets, .int s_a1_ways, .int s_a1_weighed, .int s_a1_plain, .ref q_memory, .ref q_words, .ref q_used, .ref q_last, .ref q_shape, .ref q_dirty, .int s_a1_clock, .int x7.1, .int x7.2.1, .int x7.2.2]))]) (fun x7 => [(q_this, .inr (2, [.int s_a1_sets, .int s_a1_ways, .int s_a1_weighed, .int s_a1_plain, .ref q_memory, .ref q_words, .ref q_used, .ref q_last, .ref q_shape, .ref q_dirty, .int s_a1_clock, .int x7.1, .int x7.2.1, .int x7.2.2])), (q_a1, .inr (2, [.int s_a1_sets, .int s_a1_ways, .int s_a1_weighed, .int s_a1_plain, .ref q_a1_memory, .ref q_a1_words, .ref q_a1_used, .ref q_a1_last, .ref q_a1_shape, .ref q_a1_dirty, .int s_a1_clock, .int s_a1_hits, .int s_a1_victims, .int s_a1_backs])), (q_a1_dirty, .inl (E.2.1 0, 32, .inl s_a1_dirty)), (q_a1_last, .inl (E.2.1 0, 32, .inl s_a1_last)), (q_a1_memory, .inl (E.2.1 0, 256, .inl s_a1_memory)), (q_a1_shape, .inl (E.2.1 0, 32, .inl s_a1_shape)), (q_a1_used, .inl (E.2.1 0, 32, .inl s_a1_used)), (q_a1_words, .inl (E.2.1 0, 256, .inl s_a1_words)), (q_dirty, .inl (E.2.1 0, 32, .inl x6)), (q_last, .inl (E.2.1 0, 32, .inl x4)), (q_memory, .inl (E.2.1 0, 256, .inl x1)), (q_shape, .inl (E.2.1 0, 32, .inl x5)), (q_used, .inl (E.2.1 0, 32, .inl x3)), (q_words, .inl (E.2.1 0, 256, .inl x2))]) (fun x7 => []) [0] [1, 2, 3, 4, 5, 6, 7, 8, 9, 10, 11, 12, 13] hf (fun x7 hx => wX3_countAnew E q_this s_a1_sets s_a1_ways s_a1_weighed s_a1_plain s_a1_clock s_hits s_victims s_backs (.ref q_memory) (.ref q_words) (.ref q_used) (.ref q_last) (.ref q_shape) (.ref q_dirty) x7  hx) zy_X3_countAnew zw_442 (by unfold zRm; decide) rfl rfl (fun _ => rfl) (N := 14) (by decide) (fun _ => ⟨rfl, rfl, rfl⟩) rfl rfl rfl (Nat.le_of_ble_eq_true rfl) dX3_copyOf_133 rfl rfl (fun _ => rfl) (fun x7 hf => ?_)
  have hx := Option.some.inj hf
  exact j_vret hC hR dX3_copyOf_136 rfl (by rw [← hx])
noncomputable def fX3_setOf (s_sets : Int32) (a1 : Int32) : Option (Int32) :=
  if 1 ≤ s_sets then (zrem a1 s_sets fun x1 =>
    some x1)
    else (some 0)
set_option maxHeartbeats 4000000 in
set_option maxRecDepth 100000 in
theorem wX3_setOf (E : zE) (q_this : Nat) (s_sets : Int32) (s_ways : Int32) (s_weighed : Int32) (s_plain : Int32) (s_clock : Int32) (s_hits : Int32) (s_victims : Int32) (s_backs : Int32) (v_memory : Value) (v_words : Value) (v_used : Value) (v_last : Value) (v_shape : Value) (v_dirty : Value) (a1 : Int32) (x : Int32) (hf : fX3_setOf s_sets a1 = some x) (l : Launch) (sz : Nat) : zM l yX3_setOf cX3_setOf 2 (some .int) { frames := 0, cells := 0, slots := 0, locals := 0 } E [.ref q_this, .int a1] [(q_this, .inr (2, [.int s_sets, .int s_ways, .int s_weighed, .int s_plain, v_memory, v_words, v_used, v_last, v_shape, v_dirty, .int s_clock, .int s_hits, .int s_victims, .int s_backs]))] sz (some (.int x)) [(q_this, .inr (2, [.int s_sets, .int s_ways, .int s_weighed, .int s_plain, v_memory, v_words, v_used, v_last, v_shape, v_dirty, .int s_clock, .int s_hits, .int s_victims, .int s_backs]))] := by
  refine zEnter (by decide) (Nat.le_of_ble_eq_true rfl) ?_
  intro C hC hR
  change zC C E cX3_setOf "PackedCache$Store" 2 _ at hC
  unfold fX3_setOf at hf
  refine j_sub (lv' := [(0, .ref q_this), (1, .int a1)]) [0, 1] rfl ?_
  refine j_aload_n (q := 1) hC dX3_setOf_0 rfl rfl 0 rfl ?_
  refine j_get (q := 4) hC zcl_X3 0 0 zw_165 ⟨rfl, rfl, by decide⟩ rfl rfl dX3_setOf_1 rfl ?_
  refine j_iconst (q := 5) (v := 1) hC dX3_setOf_4 rfl (by decide) ?_
  refine j_icmp_ge (tgt := 12) (q := 8) hC dX3_setOf_5 (by decide) rfl hf (fun _ hf => ?_) (fun _ hf => ?_)
  · refine j_iload_n (q := 13) hC dX3_setOf_12 rfl rfl 1 rfl ?_
    refine j_aload_n (q := 14) hC dX3_setOf_13 rfl rfl 0 rfl ?_
    refine j_get (q := 17) hC zcl_X3 0 0 zw_165 ⟨rfl, rfl, by decide⟩ rfl rfl dX3_setOf_14 rfl ?_
    refine j_irem (q := 18) hC dX3_setOf_17 rfl hf (fun x1 hf => ?_)
    have hx := Option.some.inj hf
    exact j_iret hC hR dX3_setOf_18 (by rw [← hx]) rfl
  · refine j_iconst (q := 9) (v := 0) hC dX3_setOf_8 rfl (by decide) ?_
    refine j_goto (tgt := 18) hC dX3_setOf_9 (by decide) ?_
    have hx := Option.some.inj hf
    exact j_iret hC hR dX3_setOf_18 (by rw [← hx]) rfl
noncomputable def fX3_segmentRoom (s_ways : Int32) : Option (Int32) :=
  zlet (4 * s_ways : Int32) fun x1 =>
    some x1
set_option maxHeartbeats 4000000 in
set_option maxRecDepth 100000 in
theorem wX3_segmentRoom (E : zE) (q_this : Nat) (s_sets : Int32) (s_ways : Int32) (s_weighed : Int32) (s_plain : Int32) (s_clock : Int32) (s_hits : Int32) (s_victims : Int32) (s_backs : Int32) (v_memory : Value) (v_words : Value) (v_used : Value) (v_last : Value) (v_shape : Value) (v_dirty : Value) (x : Int32) (hf : fX3_segmentRoom s_ways = some x) (l : Launch) (sz : Nat) : zM l yX3_segmentRoom cX3_segmentRoom 1 (some .int) { frames := 0, cells := 0, slots := 0, locals := 0 } E [.ref q_this] [(q_this, .inr (2, [.int s_sets, .int s_ways, .int s_weighed, .int s_plain, v_memory, v_words, v_used, v_last, v_shape, v_dirty, .int s_clock, .int s_hits, .int s_victims, .int s_backs]))] sz (some (.int x)) [(q_this, .inr (2, [.int s_sets, .int s_ways, .int s_weighed, .int s_plain, v_memory, v_words, v_used, v_last, v_shape, v_dirty, .int s_clock, .int s_hits, .int s_victims, .int s_backs]))] := by
  refine zEnter (by decide) (Nat.le_of_ble_eq_true rfl) ?_
  intro C hC hR
  change zC C E cX3_segmentRoom "PackedCache$Store" 1 _ at hC
  unfold fX3_segmentRoom at hf
  refine j_sub (lv' := [(0, .ref q_this)]) [0] rfl ?_
  refine j_iconst (q := 1) (v := 4) hC dX3_segmentRoom_0 rfl (by decide) ?_
  refine j_aload_n (q := 2) hC dX3_segmentRoom_1 rfl rfl 0 rfl ?_
  refine j_get (q := 5) hC zcl_X3 0 1 zw_166 ⟨rfl, rfl, by decide⟩ rfl rfl dX3_segmentRoom_2 rfl ?_
  refine j_imul (q := 6) hC dX3_segmentRoom_5 rfl hf (fun x1 hf => ?_)
  have hx := Option.some.inj hf
  exact j_iret hC hR dX3_segmentRoom_6 (by rw [← hx]) rfl
noncomputable def fX3_tagsIn_15 (s_sets : Int32) (s_used : (Nat → Int32))  : Nat → Int32 → Int32 → Int32 → Int32 → Option (Int32)
  | 0, _, _, _, _ => none
  | m + 1, b2, b3, b4, b5 =>
    if 32 ≤ b5 then (some b4)
    else (zald s_used 32 b5 fun x1 =>
    if x1 ≤ 0 then (zlet (b5 + b3 : Int32) fun x2 =>
    fX3_tagsIn_15 s_sets s_used  m b2 b3 b4 x2)
    else (if b5 = b2 then (zlet (b5 + b3 : Int32) fun x3 =>
    fX3_tagsIn_15 s_sets s_used  m b2 b3 b4 x3)
    else (zlet (b4 + 1) fun x4 =>
    zlet (b5 + b3 : Int32) fun x5 =>
    fX3_tagsIn_15 s_sets s_used  m b2 b3 x4 x5)))
noncomputable def fX3_tagsIn (s_sets : Int32) (s_used : (Nat → Int32)) (a1 : Int32) (a2 : Int32) : Option (Int32) :=
  zlet (if s_sets < 1 then 1 else s_sets : Int32) fun x1 =>
    fX3_tagsIn_15 s_sets s_used  zF a2 x1 0 a1
set_option maxHeartbeats 4000000 in
set_option maxRecDepth 100000 in
theorem wX3_tagsIn (E : zE) (q_this : Nat) (q_used : Nat) (s_sets : Int32) (s_ways : Int32) (s_weighed : Int32) (s_plain : Int32) (s_clock : Int32) (s_hits : Int32) (s_victims : Int32) (s_backs : Int32) (s_used : (Nat → Int32)) (v_memory : Value) (v_words : Value) (v_last : Value) (v_shape : Value) (v_dirty : Value) (a1 : Int32) (a2 : Int32) (x : Int32) (hf : fX3_tagsIn s_sets s_used a1 a2 = some x) (l : Launch) (sz : Nat) : zM l yX3_tagsIn cX3_tagsIn 6 (some .int) { frames := 1, cells := 0, slots := 0, locals := 21 } E [.ref q_this, .int a1, .int a2] [(q_this, .inr (2, [.int s_sets, .int s_ways, .int s_weighed, .int s_plain, v_memory, v_words, .ref q_used, v_last, v_shape, v_dirty, .int s_clock, .int s_hits, .int s_victims, .int s_backs])), (q_used, .inl (E.2.1 0, 32, .inl s_used))] sz (some (.int x)) [(q_this, .inr (2, [.int s_sets, .int s_ways, .int s_weighed, .int s_plain, v_memory, v_words, .ref q_used, v_last, v_shape, v_dirty, .int s_clock, .int s_hits, .int s_victims, .int s_backs])), (q_used, .inl (E.2.1 0, 32, .inl s_used))] := by
  refine zEnter (by decide) (Nat.le_of_ble_eq_true rfl) ?_
  intro C hC hR
  change zC C E cX3_tagsIn "PackedCache$Store" 6 _ at hC
  have B15 : ∀ (N : Nat), ∀ (b2 : Int32) (b3 : Int32) (b4 : Int32) (b5 : Int32), fX3_tagsIn_15 s_sets s_used  N b2 b3 b4 b5 = some x → J C 0 0 [(q_this, .inr (2, [.int s_sets, .int s_ways, .int s_weighed, .int s_plain, v_memory, v_words, .ref q_used, v_last, v_shape, v_dirty, .int s_clock, .int s_hits, .int s_victims, .int s_backs])), (q_used, .inl (E.2.1 0, 32, .inl s_used))] [(0, .ref q_this), (2, .int b2), (3, .int b3), (4, .int b4), (5, .int b5)] 15 [] := by
    intro  N
    induction N with
    | zero =>
      intro b2 b3 b4 b5 hf
      rw [fX3_tagsIn_15] at hf
      cases hf
    | succ m ih =>
      intro b2 b3 b4 b5 hf
      rw [fX3_tagsIn_15] at hf
      refine j_iload (q := 17) hC dX3_tagsIn_15 rfl 4 rfl ?_
      refine j_bipush (q := 19) (v := 32) hC dX3_tagsIn_17 rfl (by decide) ?_
      refine j_icmp_ge (tgt := 50) (q := 22) hC dX3_tagsIn_19 (by decide) rfl hf (fun _ hf => ?_) (fun _ hf => ?_)
      · refine j_iload (q := 52) hC dX3_tagsIn_50 rfl 3 rfl ?_
        have hx := Option.some.inj hf
        exact j_iret hC hR dX3_tagsIn_52 (by rw [← hx]) rfl
      · refine j_aload_n (q := 23) hC dX3_tagsIn_22 rfl rfl 0 rfl ?_
        refine j_get (q := 26) hC zcl_X3 0 6 zw_173 ⟨rfl, rfl, by decide⟩ rfl rfl dX3_tagsIn_23 rfl ?_
        refine j_iload (q := 28) hC dX3_tagsIn_26 rfl 4 rfl ?_
        refine j_iald (q := 29) hC 1 rfl dX3_tagsIn_28 rfl hf (fun x1 hf => ?_)
        refine j_if_le (tgt := 41) (q := 32) hC dX3_tagsIn_29 (by decide) rfl hf (fun _ hf => ?_) (fun _ hf => ?_)
        · refine j_iload (q := 43) hC dX3_tagsIn_41 rfl 4 rfl ?_
          refine j_iload_n (q := 44) hC dX3_tagsIn_43 rfl rfl 2 rfl ?_
          refine j_iadd (q := 45) hC dX3_tagsIn_44 rfl hf (fun x2 hf => ?_)
          refine j_istore (q := 47) (lv' := [(5, .int x2), (0, .ref q_this), (2, .int b2), (3, .int b3), (4, .int b4)]) hC dX3_tagsIn_45 rfl (by decide) rfl ?_
          refine j_goto (tgt := 15) hC dX3_tagsIn_47 (by decide) ?_
          refine j_sub (lv' := [(0, .ref q_this), (2, .int b2), (3, .int b3), (4, .int b4), (5, .int x2)]) [1, 2, 3, 4, 0] rfl ?_
          exact ih b2 b3 b4 x2 hf
        · refine j_iload (q := 34) hC dX3_tagsIn_32 rfl 4 rfl ?_
          refine j_iload_n (q := 35) hC dX3_tagsIn_34 rfl rfl 1 rfl ?_
          refine j_icmp_eq (tgt := 41) (q := 38) hC dX3_tagsIn_35 (by decide) rfl hf (fun _ hf => ?_) (fun _ hf => ?_)
          · refine j_iload (q := 43) hC dX3_tagsIn_41 rfl 4 rfl ?_
            refine j_iload_n (q := 44) hC dX3_tagsIn_43 rfl rfl 2 rfl ?_
            refine j_iadd (q := 45) hC dX3_tagsIn_44 rfl hf (fun x3 hf => ?_)
            refine j_istore (q := 47) (lv' := [(5, .int x3), (0, .ref q_this), (2, .int b2), (3, .int b3), (4, .int b4)]) hC dX3_tagsIn_45 rfl (by decide) rfl ?_
            refine j_goto (tgt := 15) hC dX3_tagsIn_47 (by decide) ?_
            refine j_sub (lv' := [(0, .ref q_this), (2, .int b2), (3, .int b3), (4, .int b4), (5, .int x3)]) [1, 2, 3, 4, 0] rfl ?_
            exact ih b2 b3 b4 x3 hf
          · refine j_iinc (q := 41) (v := 1) hC (fun x4 => [(4, .int x4), (0, .ref q_this), (2, .int b2), (3, .int b3), (5, .int b5)]) dX3_tagsIn_38 rfl 3 rfl (by decide) (by decide) (fun _ => rfl) hf (fun x4 hf => ?_)
            refine j_iload (q := 43) hC dX3_tagsIn_41 rfl 4 rfl ?_
            refine j_iload_n (q := 44) hC dX3_tagsIn_43 rfl rfl 3 rfl ?_
            refine j_iadd (q := 45) hC dX3_tagsIn_44 rfl hf (fun x5 hf => ?_)
            refine j_istore (q := 47) (lv' := [(5, .int x5), (4, .int x4), (0, .ref q_this), (2, .int b2), (3, .int b3)]) hC dX3_tagsIn_45 rfl (by decide) rfl ?_
            refine j_goto (tgt := 15) hC dX3_tagsIn_47 (by decide) ?_
            refine j_sub (lv' := [(0, .ref q_this), (2, .int b2), (3, .int b3), (4, .int x4), (5, .int x5)]) [2, 3, 4, 1, 0] rfl ?_
            exact ih b2 b3 x4 x5 hf
  unfold fX3_tagsIn at hf
  refine j_sub (lv' := [(0, .ref q_this), (1, .int a1), (2, .int a2)]) [0, 1, 2] rfl ?_
  refine j_aload_n (q := 1) hC dX3_tagsIn_0 rfl rfl 0 rfl ?_
  refine j_get (q := 4) hC zcl_X3 0 0 zw_165 ⟨rfl, rfl, by decide⟩ rfl rfl dX3_tagsIn_1 rfl ?_
  refine j_iconst (q := 5) (v := 1) hC dX3_tagsIn_4 rfl (by decide) ?_
  refine j_max (q := 8) hC zw_569 zw_maxs zw_ini_math zw_maxc ⟨by decide, Nat.le_of_ble_eq_true rfl, by decide, by decide⟩ dX3_tagsIn_5 rfl hf (fun x1 hf => ?_)
  refine j_istore_n (q := 9) (lv' := [(3, .int x1), (0, .ref q_this), (1, .int a1), (2, .int a2)]) hC dX3_tagsIn_8 rfl rfl (by decide) rfl ?_
  refine j_iconst (q := 10) (v := 0) hC dX3_tagsIn_9 rfl (by decide) ?_
  refine j_istore (q := 12) (lv' := [(4, .int 0), (3, .int x1), (0, .ref q_this), (1, .int a1), (2, .int a2)]) hC dX3_tagsIn_10 rfl (by decide) rfl ?_
  refine j_iload_n (q := 13) hC dX3_tagsIn_12 rfl rfl 3 rfl ?_
  refine j_istore (q := 15) (lv' := [(5, .int a1), (4, .int 0), (3, .int x1), (0, .ref q_this), (1, .int a1), (2, .int a2)]) hC dX3_tagsIn_13 rfl (by decide) rfl ?_
  refine j_sub (lv' := [(0, .ref q_this), (2, .int a2), (3, .int x1), (4, .int 0), (5, .int a1)]) [3, 5, 2, 1, 0] rfl ?_
  exact B15  zF a2 x1 0 a1 hf
noncomputable def fX3_segmentsIn_15 (s_sets : Int32) (s_shape : (Nat → Int32)) (s_used : (Nat → Int32))  : Nat → Int32 → Int32 → Int32 → Int32 → Option (Int32)
  | 0, _, _, _, _ => none
  | m + 1, b2, b3, b4, b5 =>
    if 32 ≤ b5 then (some b4)
    else (zald s_used 32 b5 fun x1 =>
    if x1 ≤ 0 then (zlet (b5 + b3 : Int32) fun x2 =>
    fX3_segmentsIn_15 s_sets s_shape s_used  m b2 b3 b4 x2)
    else (if b5 = b2 then (zlet (b5 + b3 : Int32) fun x3 =>
    fX3_segmentsIn_15 s_sets s_shape s_used  m b2 b3 b4 x3)
    else (zald s_shape 32 b5 fun x4 =>
    zald (zSv 1) 8 x4 fun x5 =>
    zlet (b4 + x5 : Int32) fun x6 =>
    zlet (b5 + b3 : Int32) fun x7 =>
    fX3_segmentsIn_15 s_sets s_shape s_used  m b2 b3 x6 x7)))
noncomputable def fX3_segmentsIn (s_sets : Int32) (s_shape : (Nat → Int32)) (s_used : (Nat → Int32)) (a1 : Int32) (a2 : Int32) : Option (Int32) :=
  zlet (if s_sets < 1 then 1 else s_sets : Int32) fun x1 =>
    fX3_segmentsIn_15 s_sets s_shape s_used  zF a2 x1 0 a1
set_option maxHeartbeats 4000000 in
set_option maxRecDepth 100000 in
theorem wX3_segmentsIn (E : zE) (q_this : Nat) (q_shape : Nat) (q_used : Nat) (s_sets : Int32) (s_ways : Int32) (s_weighed : Int32) (s_plain : Int32) (s_clock : Int32) (s_hits : Int32) (s_victims : Int32) (s_backs : Int32) (s_shape : (Nat → Int32)) (s_used : (Nat → Int32)) (v_memory : Value) (v_words : Value) (v_last : Value) (v_dirty : Value) (a1 : Int32) (a2 : Int32) (x : Int32) (hf : fX3_segmentsIn s_sets s_shape s_used a1 a2 = some x) (l : Launch) (sz : Nat) : zM l yX3_segmentsIn cX3_segmentsIn 6 (some .int) { frames := 1, cells := 0, slots := 0, locals := 21 } E [.ref q_this, .int a1, .int a2] [(q_this, .inr (2, [.int s_sets, .int s_ways, .int s_weighed, .int s_plain, v_memory, v_words, .ref q_used, v_last, .ref q_shape, v_dirty, .int s_clock, .int s_hits, .int s_victims, .int s_backs])), (q_shape, .inl (E.2.1 0, 32, .inl s_shape)), (q_used, .inl (E.2.1 0, 32, .inl s_used))] sz (some (.int x)) [(q_this, .inr (2, [.int s_sets, .int s_ways, .int s_weighed, .int s_plain, v_memory, v_words, .ref q_used, v_last, .ref q_shape, v_dirty, .int s_clock, .int s_hits, .int s_victims, .int s_backs])), (q_shape, .inl (E.2.1 0, 32, .inl s_shape)), (q_used, .inl (E.2.1 0, 32, .inl s_used))] := by
  refine zEnter (by decide) (Nat.le_of_ble_eq_true rfl) ?_
  intro C hC hR
  change zC C E cX3_segmentsIn "PackedCache$Store" 6 _ at hC
  have B15 : ∀ (N : Nat), ∀ (b2 : Int32) (b3 : Int32) (b4 : Int32) (b5 : Int32), fX3_segmentsIn_15 s_sets s_shape s_used  N b2 b3 b4 b5 = some x → J C 0 0 [(q_this, .inr (2, [.int s_sets, .int s_ways, .int s_weighed, .int s_plain, v_memory, v_words, .ref q_used, v_last, .ref q_shape, v_dirty, .int s_clock, .int s_hits, .int s_victims, .int s_backs])), (q_shape, .inl (E.2.1 0, 32, .inl s_shape)), (q_used, .inl (E.2.1 0, 32, .inl s_used))] [(0, .ref q_this), (2, .int b2), (3, .int b3), (4, .int b4), (5, .int b5)] 15 [] := by
    intro  N
    induction N with
    | zero =>
      intro b2 b3 b4 b5 hf
      rw [fX3_segmentsIn_15] at hf
      cases hf
    | succ m ih =>
      intro b2 b3 b4 b5 hf
      rw [fX3_segmentsIn_15] at hf
      refine j_iload (q := 17) hC dX3_segmentsIn_15 rfl 4 rfl ?_
      refine j_bipush (q := 19) (v := 32) hC dX3_segmentsIn_17 rfl (by decide) ?_
      refine j_icmp_ge (tgt := 63) (q := 22) hC dX3_segmentsIn_19 (by decide) rfl hf (fun _ hf => ?_) (fun _ hf => ?_)
      · refine j_iload (q := 65) hC dX3_segmentsIn_63 rfl 3 rfl ?_
        have hx := Option.some.inj hf
        exact j_iret hC hR dX3_segmentsIn_65 (by rw [← hx]) rfl
      · refine j_aload_n (q := 23) hC dX3_segmentsIn_22 rfl rfl 0 rfl ?_
        refine j_get (q := 26) hC zcl_X3 0 6 zw_173 ⟨rfl, rfl, by decide⟩ rfl rfl dX3_segmentsIn_23 rfl ?_
        refine j_iload (q := 28) hC dX3_segmentsIn_26 rfl 4 rfl ?_
        refine j_iald (q := 29) hC 2 rfl dX3_segmentsIn_28 rfl hf (fun x1 hf => ?_)
        refine j_if_le (tgt := 54) (q := 32) hC dX3_segmentsIn_29 (by decide) rfl hf (fun _ hf => ?_) (fun _ hf => ?_)
        · refine j_iload (q := 56) hC dX3_segmentsIn_54 rfl 4 rfl ?_
          refine j_iload_n (q := 57) hC dX3_segmentsIn_56 rfl rfl 2 rfl ?_
          refine j_iadd (q := 58) hC dX3_segmentsIn_57 rfl hf (fun x2 hf => ?_)
          refine j_istore (q := 60) (lv' := [(5, .int x2), (0, .ref q_this), (2, .int b2), (3, .int b3), (4, .int b4)]) hC dX3_segmentsIn_58 rfl (by decide) rfl ?_
          refine j_goto (tgt := 15) hC dX3_segmentsIn_60 (by decide) ?_
          refine j_sub (lv' := [(0, .ref q_this), (2, .int b2), (3, .int b3), (4, .int b4), (5, .int x2)]) [1, 2, 3, 4, 0] rfl ?_
          exact ih b2 b3 b4 x2 hf
        · refine j_iload (q := 34) hC dX3_segmentsIn_32 rfl 4 rfl ?_
          refine j_iload_n (q := 35) hC dX3_segmentsIn_34 rfl rfl 1 rfl ?_
          refine j_icmp_eq (tgt := 54) (q := 38) hC dX3_segmentsIn_35 (by decide) rfl hf (fun _ hf => ?_) (fun _ hf => ?_)
          · refine j_iload (q := 56) hC dX3_segmentsIn_54 rfl 4 rfl ?_
            refine j_iload_n (q := 57) hC dX3_segmentsIn_56 rfl rfl 2 rfl ?_
            refine j_iadd (q := 58) hC dX3_segmentsIn_57 rfl hf (fun x3 hf => ?_)
            refine j_istore (q := 60) (lv' := [(5, .int x3), (0, .ref q_this), (2, .int b2), (3, .int b3), (4, .int b4)]) hC dX3_segmentsIn_58 rfl (by decide) rfl ?_
            refine j_goto (tgt := 15) hC dX3_segmentsIn_60 (by decide) ?_
            refine j_sub (lv' := [(0, .ref q_this), (2, .int b2), (3, .int b3), (4, .int b4), (5, .int x3)]) [1, 2, 3, 4, 0] rfl ?_
            exact ih b2 b3 b4 x3 hf
          · refine j_iload (q := 40) hC dX3_segmentsIn_38 rfl 3 rfl ?_
            refine j_getsN (q := 43) hC 1 (by decide) zn_576 dX3_segmentsIn_40 rfl ?_
            refine j_aload_n (q := 44) hC dX3_segmentsIn_43 rfl rfl 0 rfl ?_
            refine j_get (q := 47) hC zcl_X3 0 8 zw_176 ⟨rfl, rfl, by decide⟩ rfl rfl dX3_segmentsIn_44 rfl ?_
            refine j_iload (q := 49) hC dX3_segmentsIn_47 rfl 4 rfl ?_
            refine j_iald (q := 50) hC 1 rfl dX3_segmentsIn_49 rfl hf (fun x4 hf => ?_)
            refine j_tld (q := 51) hC 1 (by decide) dX3_segmentsIn_50 rfl hf (fun x5 hf => ?_)
            refine j_iadd (q := 52) hC dX3_segmentsIn_51 rfl hf (fun x6 hf => ?_)
            refine j_istore (q := 54) (lv' := [(4, .int x6), (0, .ref q_this), (2, .int b2), (3, .int b3), (5, .int b5)]) hC dX3_segmentsIn_52 rfl (by decide) rfl ?_
            refine j_iload (q := 56) hC dX3_segmentsIn_54 rfl 4 rfl ?_
            refine j_iload_n (q := 57) hC dX3_segmentsIn_56 rfl rfl 3 rfl ?_
            refine j_iadd (q := 58) hC dX3_segmentsIn_57 rfl hf (fun x7 hf => ?_)
            refine j_istore (q := 60) (lv' := [(5, .int x7), (4, .int x6), (0, .ref q_this), (2, .int b2), (3, .int b3)]) hC dX3_segmentsIn_58 rfl (by decide) rfl ?_
            refine j_goto (tgt := 15) hC dX3_segmentsIn_60 (by decide) ?_
            refine j_sub (lv' := [(0, .ref q_this), (2, .int b2), (3, .int b3), (4, .int x6), (5, .int x7)]) [2, 3, 4, 1, 0] rfl ?_
            exact ih b2 b3 x6 x7 hf
  unfold fX3_segmentsIn at hf
  refine j_sub (lv' := [(0, .ref q_this), (1, .int a1), (2, .int a2)]) [0, 1, 2] rfl ?_
  refine j_aload_n (q := 1) hC dX3_segmentsIn_0 rfl rfl 0 rfl ?_
  refine j_get (q := 4) hC zcl_X3 0 0 zw_165 ⟨rfl, rfl, by decide⟩ rfl rfl dX3_segmentsIn_1 rfl ?_
  refine j_iconst (q := 5) (v := 1) hC dX3_segmentsIn_4 rfl (by decide) ?_
  refine j_max (q := 8) hC zw_569 zw_maxs zw_ini_math zw_maxc ⟨by decide, Nat.le_of_ble_eq_true rfl, by decide, by decide⟩ dX3_segmentsIn_5 rfl hf (fun x1 hf => ?_)
  refine j_istore_n (q := 9) (lv' := [(3, .int x1), (0, .ref q_this), (1, .int a1), (2, .int a2)]) hC dX3_segmentsIn_8 rfl rfl (by decide) rfl ?_
  refine j_iconst (q := 10) (v := 0) hC dX3_segmentsIn_9 rfl (by decide) ?_
  refine j_istore (q := 12) (lv' := [(4, .int 0), (3, .int x1), (0, .ref q_this), (1, .int a1), (2, .int a2)]) hC dX3_segmentsIn_10 rfl (by decide) rfl ?_
  refine j_iload_n (q := 13) hC dX3_segmentsIn_12 rfl rfl 3 rfl ?_
  refine j_istore (q := 15) (lv' := [(5, .int a1), (4, .int 0), (3, .int x1), (0, .ref q_this), (1, .int a1), (2, .int a2)]) hC dX3_segmentsIn_13 rfl (by decide) rfl ?_
  refine j_sub (lv' := [(0, .ref q_this), (2, .int a2), (3, .int x1), (4, .int 0), (5, .int a1)]) [3, 5, 2, 1, 0] rfl ?_
  exact B15  zF a2 x1 0 a1 hf
noncomputable def fX3_goesAhead_62 (s_weighed : Int32) (s_last : (Nat → Int32)) (s_shape : (Nat → Int32)) (s_used : (Nat → Int32))  (b1 : Int32) (b2 : Int32) : Option (Int32) :=
  zald s_last 32 b1 fun x1 =>
    zald s_last 32 b2 fun x2 =>
    if x2 ≤ x1 then (some 0)
    else (some 1)
noncomputable def fX3_goesAhead (s_weighed : Int32) (s_last : (Nat → Int32)) (s_shape : (Nat → Int32)) (s_used : (Nat → Int32)) (a1 : Int32) (a2 : Int32) : Option (Int32) :=
  if s_weighed = 0 then (fX3_goesAhead_62 s_weighed s_last s_shape s_used  a1 a2)
    else (zald s_used 32 a1 fun x1 =>
    zald s_shape 32 a2 fun x2 =>
    zald (zSv 1) 8 x2 fun x3 =>
    zlet (x1 * x3 : Int32) fun x4 =>
    zald s_used 32 a2 fun x5 =>
    zald s_shape 32 a1 fun x6 =>
    zald (zSv 1) 8 x6 fun x7 =>
    zlet (x5 * x7 : Int32) fun x8 =>
    if x4 = x8 then (fX3_goesAhead_62 s_weighed s_last s_shape s_used  a1 a2)
    else (if x8 ≤ x4 then (some 0)
    else (some 1)))
set_option maxHeartbeats 4000000 in
set_option maxRecDepth 100000 in
theorem wX3_goesAhead (E : zE) (q_this : Nat) (q_last : Nat) (q_shape : Nat) (q_used : Nat) (s_sets : Int32) (s_ways : Int32) (s_weighed : Int32) (s_plain : Int32) (s_clock : Int32) (s_hits : Int32) (s_victims : Int32) (s_backs : Int32) (s_last : (Nat → Int32)) (s_shape : (Nat → Int32)) (s_used : (Nat → Int32)) (v_memory : Value) (v_words : Value) (v_dirty : Value) (a1 : Int32) (a2 : Int32) (x : Int32) (hf : fX3_goesAhead s_weighed s_last s_shape s_used a1 a2 = some x) (l : Launch) (sz : Nat) : zM l yX3_goesAhead cX3_goesAhead 5 (some .boolean) { frames := 0, cells := 0, slots := 0, locals := 0 } E [.ref q_this, .int a1, .int a2] [(q_this, .inr (2, [.int s_sets, .int s_ways, .int s_weighed, .int s_plain, v_memory, v_words, .ref q_used, .ref q_last, .ref q_shape, v_dirty, .int s_clock, .int s_hits, .int s_victims, .int s_backs])), (q_last, .inl (E.2.1 0, 32, .inl s_last)), (q_shape, .inl (E.2.1 0, 32, .inl s_shape)), (q_used, .inl (E.2.1 0, 32, .inl s_used))] sz (some (.int x)) [(q_this, .inr (2, [.int s_sets, .int s_ways, .int s_weighed, .int s_plain, v_memory, v_words, .ref q_used, .ref q_last, .ref q_shape, v_dirty, .int s_clock, .int s_hits, .int s_victims, .int s_backs])), (q_last, .inl (E.2.1 0, 32, .inl s_last)), (q_shape, .inl (E.2.1 0, 32, .inl s_shape)), (q_used, .inl (E.2.1 0, 32, .inl s_used))] := by
  refine zEnter (by decide) (Nat.le_of_ble_eq_true rfl) ?_
  intro C hC hR
  change zC C E cX3_goesAhead "PackedCache$Store" 5 _ at hC
  have B62 : ∀ (b1 : Int32) (b2 : Int32), fX3_goesAhead_62 s_weighed s_last s_shape s_used  b1 b2 = some x → J C 0 0 [(q_this, .inr (2, [.int s_sets, .int s_ways, .int s_weighed, .int s_plain, v_memory, v_words, .ref q_used, .ref q_last, .ref q_shape, v_dirty, .int s_clock, .int s_hits, .int s_victims, .int s_backs])), (q_last, .inl (E.2.1 0, 32, .inl s_last)), (q_shape, .inl (E.2.1 0, 32, .inl s_shape)), (q_used, .inl (E.2.1 0, 32, .inl s_used))] [(0, .ref q_this), (1, .int b1), (2, .int b2)] 62 [] := by
    intro  b1 b2 hf
    unfold fX3_goesAhead_62 at hf
    refine j_aload_n (q := 63) hC dX3_goesAhead_62 rfl rfl 0 rfl ?_
    refine j_get (q := 66) hC zcl_X3 0 7 zw_175 ⟨rfl, rfl, by decide⟩ rfl rfl dX3_goesAhead_63 rfl ?_
    refine j_iload_n (q := 67) hC dX3_goesAhead_66 rfl rfl 1 rfl ?_
    refine j_iald (q := 68) hC 1 rfl dX3_goesAhead_67 rfl hf (fun x1 hf => ?_)
    refine j_aload_n (q := 69) hC dX3_goesAhead_68 rfl rfl 0 rfl ?_
    refine j_get (q := 72) hC zcl_X3 0 7 zw_175 ⟨rfl, rfl, by decide⟩ rfl rfl dX3_goesAhead_69 rfl ?_
    refine j_iload_n (q := 73) hC dX3_goesAhead_72 rfl rfl 2 rfl ?_
    refine j_iald (q := 74) hC 1 rfl dX3_goesAhead_73 rfl hf (fun x2 hf => ?_)
    refine j_icmp_ge (tgt := 81) (q := 77) hC dX3_goesAhead_74 (by decide) rfl hf (fun _ hf => ?_) (fun _ hf => ?_)
    · refine j_iconst (q := 82) (v := 0) hC dX3_goesAhead_81 rfl (by decide) ?_
      have hx := Option.some.inj hf
      exact j_zret hC hR rfl dX3_goesAhead_82 (by rw [← hx]) rfl
    · refine j_iconst (q := 78) (v := 1) hC dX3_goesAhead_77 rfl (by decide) ?_
      refine j_goto (tgt := 82) hC dX3_goesAhead_78 (by decide) ?_
      have hx := Option.some.inj hf
      exact j_zret hC hR rfl dX3_goesAhead_82 (by rw [← hx]) rfl
  unfold fX3_goesAhead at hf
  refine j_sub (lv' := [(0, .ref q_this), (1, .int a1), (2, .int a2)]) [0, 1, 2] rfl ?_
  refine j_aload_n (q := 1) hC dX3_goesAhead_0 rfl rfl 0 rfl ?_
  refine j_get (q := 4) hC zcl_X3 0 2 zw_167 ⟨rfl, rfl, by decide⟩ rfl rfl dX3_goesAhead_1 rfl ?_
  refine j_if_eq (tgt := 62) (q := 7) hC dX3_goesAhead_4 (by decide) rfl hf (fun _ hf => ?_) (fun _ hf => ?_)
  · exact B62  a1 a2 hf
  · refine j_aload_n (q := 8) hC dX3_goesAhead_7 rfl rfl 0 rfl ?_
    refine j_get (q := 11) hC zcl_X3 0 6 zw_173 ⟨rfl, rfl, by decide⟩ rfl rfl dX3_goesAhead_8 rfl ?_
    refine j_iload_n (q := 12) hC dX3_goesAhead_11 rfl rfl 1 rfl ?_
    refine j_iald (q := 13) hC 3 rfl dX3_goesAhead_12 rfl hf (fun x1 hf => ?_)
    refine j_getsN (q := 16) hC 1 (by decide) zn_576 dX3_goesAhead_13 rfl ?_
    refine j_aload_n (q := 17) hC dX3_goesAhead_16 rfl rfl 0 rfl ?_
    refine j_get (q := 20) hC zcl_X3 0 8 zw_176 ⟨rfl, rfl, by decide⟩ rfl rfl dX3_goesAhead_17 rfl ?_
    refine j_iload_n (q := 21) hC dX3_goesAhead_20 rfl rfl 2 rfl ?_
    refine j_iald (q := 22) hC 2 rfl dX3_goesAhead_21 rfl hf (fun x2 hf => ?_)
    refine j_tld (q := 23) hC 1 (by decide) dX3_goesAhead_22 rfl hf (fun x3 hf => ?_)
    refine j_imul (q := 24) hC dX3_goesAhead_23 rfl hf (fun x4 hf => ?_)
    refine j_istore_n (q := 25) (lv' := [(3, .int x4), (0, .ref q_this), (1, .int a1), (2, .int a2)]) hC dX3_goesAhead_24 rfl rfl (by decide) rfl ?_
    refine j_aload_n (q := 26) hC dX3_goesAhead_25 rfl rfl 1 rfl ?_
    refine j_get (q := 29) hC zcl_X3 0 6 zw_173 ⟨rfl, rfl, by decide⟩ rfl rfl dX3_goesAhead_26 rfl ?_
    refine j_iload_n (q := 30) hC dX3_goesAhead_29 rfl rfl 3 rfl ?_
    refine j_iald (q := 31) hC 3 rfl dX3_goesAhead_30 rfl hf (fun x5 hf => ?_)
    refine j_getsN (q := 34) hC 1 (by decide) zn_576 dX3_goesAhead_31 rfl ?_
    refine j_aload_n (q := 35) hC dX3_goesAhead_34 rfl rfl 1 rfl ?_
    refine j_get (q := 38) hC zcl_X3 0 8 zw_176 ⟨rfl, rfl, by decide⟩ rfl rfl dX3_goesAhead_35 rfl ?_
    refine j_iload_n (q := 39) hC dX3_goesAhead_38 rfl rfl 2 rfl ?_
    refine j_iald (q := 40) hC 2 rfl dX3_goesAhead_39 rfl hf (fun x6 hf => ?_)
    refine j_tld (q := 41) hC 1 (by decide) dX3_goesAhead_40 rfl hf (fun x7 hf => ?_)
    refine j_imul (q := 42) hC dX3_goesAhead_41 rfl hf (fun x8 hf => ?_)
    refine j_istore (q := 44) (lv' := [(4, .int x8), (3, .int x4), (0, .ref q_this), (1, .int a1), (2, .int a2)]) hC dX3_goesAhead_42 rfl (by decide) rfl ?_
    refine j_iload_n (q := 45) hC dX3_goesAhead_44 rfl rfl 1 rfl ?_
    refine j_iload (q := 47) hC dX3_goesAhead_45 rfl 0 rfl ?_
    refine j_icmp_eq (tgt := 62) (q := 50) hC dX3_goesAhead_47 (by decide) rfl hf (fun _ hf => ?_) (fun _ hf => ?_)
    · refine j_sub (lv' := [(0, .ref q_this), (1, .int a1), (2, .int a2)]) [2, 3, 4] rfl ?_
      exact B62  a1 a2 hf
    · refine j_iload_n (q := 51) hC dX3_goesAhead_50 rfl rfl 1 rfl ?_
      refine j_iload (q := 53) hC dX3_goesAhead_51 rfl 0 rfl ?_
      refine j_icmp_ge (tgt := 60) (q := 56) hC dX3_goesAhead_53 (by decide) rfl hf (fun _ hf => ?_) (fun _ hf => ?_)
      · refine j_iconst (q := 61) (v := 0) hC dX3_goesAhead_60 rfl (by decide) ?_
        have hx := Option.some.inj hf
        exact j_zret hC hR rfl dX3_goesAhead_61 (by rw [← hx]) rfl
      · refine j_iconst (q := 57) (v := 1) hC dX3_goesAhead_56 rfl (by decide) ?_
        refine j_goto (tgt := 61) hC dX3_goesAhead_57 (by decide) ?_
        have hx := Option.some.inj hf
        exact j_zret hC hR rfl dX3_goesAhead_61 (by rw [← hx]) rfl
noncomputable def fX3_nextVictim_15 (s_sets : Int32) (s_weighed : Int32) (s_last : (Nat → Int32)) (s_shape : (Nat → Int32)) (s_used : (Nat → Int32))  : Nat → Int32 → Int32 → Int32 → Int32 → Option (Int32)
  | 0, _, _, _, _ => none
  | m + 1, b2, b3, b4, b5 =>
    if 32 ≤ b5 then (some b4)
    else (zald s_used 32 b5 fun x1 =>
    if x1 ≤ 0 then (zlet (b5 + b3 : Int32) fun x2 =>
    fX3_nextVictim_15 s_sets s_weighed s_last s_shape s_used  m b2 b3 b4 x2)
    else (if b5 = b2 then (zlet (b5 + b3 : Int32) fun x3 =>
    fX3_nextVictim_15 s_sets s_weighed s_last s_shape s_used  m b2 b3 b4 x3)
    else (if b4 < 0 then (zlet (b5 + b3 : Int32) fun x4 =>
    fX3_nextVictim_15 s_sets s_weighed s_last s_shape s_used  m b2 b3 b5 x4)
    else ((fX3_goesAhead s_weighed s_last s_shape s_used b5 b4).bind fun x5 =>
    if x5 = 0 then (zlet (b5 + b3 : Int32) fun x6 =>
    fX3_nextVictim_15 s_sets s_weighed s_last s_shape s_used  m b2 b3 b4 x6)
    else (zlet (b5 + b3 : Int32) fun x7 =>
    fX3_nextVictim_15 s_sets s_weighed s_last s_shape s_used  m b2 b3 b5 x7)))))
noncomputable def fX3_nextVictim (s_sets : Int32) (s_weighed : Int32) (s_last : (Nat → Int32)) (s_shape : (Nat → Int32)) (s_used : (Nat → Int32)) (a1 : Int32) (a2 : Int32) : Option (Int32) :=
  zlet (if s_sets < 1 then 1 else s_sets : Int32) fun x1 =>
    fX3_nextVictim_15 s_sets s_weighed s_last s_shape s_used  zF a2 x1 (-1) a1
set_option maxHeartbeats 4000000 in
set_option maxRecDepth 100000 in
theorem wX3_nextVictim (E : zE) (q_this : Nat) (q_last : Nat) (q_shape : Nat) (q_used : Nat) (s_sets : Int32) (s_ways : Int32) (s_weighed : Int32) (s_plain : Int32) (s_clock : Int32) (s_hits : Int32) (s_victims : Int32) (s_backs : Int32) (s_last : (Nat → Int32)) (s_shape : (Nat → Int32)) (s_used : (Nat → Int32)) (v_memory : Value) (v_words : Value) (v_dirty : Value) (a1 : Int32) (a2 : Int32) (x : Int32) (hf : fX3_nextVictim s_sets s_weighed s_last s_shape s_used a1 a2 = some x) (l : Launch) (sz : Nat) : zM l yX3_nextVictim cX3_nextVictim 6 (some .int) { frames := 1, cells := 0, slots := 0, locals := 24 } E [.ref q_this, .int a1, .int a2] [(q_this, .inr (2, [.int s_sets, .int s_ways, .int s_weighed, .int s_plain, v_memory, v_words, .ref q_used, .ref q_last, .ref q_shape, v_dirty, .int s_clock, .int s_hits, .int s_victims, .int s_backs])), (q_last, .inl (E.2.1 0, 32, .inl s_last)), (q_shape, .inl (E.2.1 0, 32, .inl s_shape)), (q_used, .inl (E.2.1 0, 32, .inl s_used))] sz (some (.int x)) [(q_this, .inr (2, [.int s_sets, .int s_ways, .int s_weighed, .int s_plain, v_memory, v_words, .ref q_used, .ref q_last, .ref q_shape, v_dirty, .int s_clock, .int s_hits, .int s_victims, .int s_backs])), (q_last, .inl (E.2.1 0, 32, .inl s_last)), (q_shape, .inl (E.2.1 0, 32, .inl s_shape)), (q_used, .inl (E.2.1 0, 32, .inl s_used))] := by
  refine zEnter (by decide) (Nat.le_of_ble_eq_true rfl) ?_
  intro C hC hR
  change zC C E cX3_nextVictim "PackedCache$Store" 6 _ at hC
  have B15 : ∀ (N : Nat), ∀ (b2 : Int32) (b3 : Int32) (b4 : Int32) (b5 : Int32), fX3_nextVictim_15 s_sets s_weighed s_last s_shape s_used  N b2 b3 b4 b5 = some x → J C 0 0 [(q_this, .inr (2, [.int s_sets, .int s_ways, .int s_weighed, .int s_plain, v_memory, v_words, .ref q_used, .ref q_last, .ref q_shape, v_dirty, .int s_clock, .int s_hits, .int s_victims, .int s_backs])), (q_last, .inl (E.2.1 0, 32, .inl s_last)), (q_shape, .inl (E.2.1 0, 32, .inl s_shape)), (q_used, .inl (E.2.1 0, 32, .inl s_used))] [(0, .ref q_this), (2, .int b2), (3, .int b3), (4, .int b4), (5, .int b5)] 15 [] := by
    intro  N
    induction N with
    | zero =>
      intro b2 b3 b4 b5 hf
      rw [fX3_nextVictim_15] at hf
      cases hf
    | succ m ih =>
      intro b2 b3 b4 b5 hf
      rw [fX3_nextVictim_15] at hf
      refine j_iload (q := 17) hC dX3_nextVictim_15 rfl 4 rfl ?_
      refine j_bipush (q := 19) (v := 32) hC dX3_nextVictim_17 rfl (by decide) ?_
      refine j_icmp_ge (tgt := 67) (q := 22) hC dX3_nextVictim_19 (by decide) rfl hf (fun _ hf => ?_) (fun _ hf => ?_)
      · refine j_iload (q := 69) hC dX3_nextVictim_67 rfl 3 rfl ?_
        have hx := Option.some.inj hf
        exact j_iret hC hR dX3_nextVictim_69 (by rw [← hx]) rfl
      · refine j_aload_n (q := 23) hC dX3_nextVictim_22 rfl rfl 0 rfl ?_
        refine j_get (q := 26) hC zcl_X3 0 6 zw_173 ⟨rfl, rfl, by decide⟩ rfl rfl dX3_nextVictim_23 rfl ?_
        refine j_iload (q := 28) hC dX3_nextVictim_26 rfl 4 rfl ?_
        refine j_iald (q := 29) hC 3 rfl dX3_nextVictim_28 rfl hf (fun x1 hf => ?_)
        refine j_if_le (tgt := 58) (q := 32) hC dX3_nextVictim_29 (by decide) rfl hf (fun _ hf => ?_) (fun _ hf => ?_)
        · refine j_iload (q := 60) hC dX3_nextVictim_58 rfl 4 rfl ?_
          refine j_iload_n (q := 61) hC dX3_nextVictim_60 rfl rfl 2 rfl ?_
          refine j_iadd (q := 62) hC dX3_nextVictim_61 rfl hf (fun x2 hf => ?_)
          refine j_istore (q := 64) (lv' := [(5, .int x2), (0, .ref q_this), (2, .int b2), (3, .int b3), (4, .int b4)]) hC dX3_nextVictim_62 rfl (by decide) rfl ?_
          refine j_goto (tgt := 15) hC dX3_nextVictim_64 (by decide) ?_
          refine j_sub (lv' := [(0, .ref q_this), (2, .int b2), (3, .int b3), (4, .int b4), (5, .int x2)]) [1, 2, 3, 4, 0] rfl ?_
          exact ih b2 b3 b4 x2 hf
        · refine j_iload (q := 34) hC dX3_nextVictim_32 rfl 4 rfl ?_
          refine j_iload_n (q := 35) hC dX3_nextVictim_34 rfl rfl 1 rfl ?_
          refine j_icmp_eq (tgt := 58) (q := 38) hC dX3_nextVictim_35 (by decide) rfl hf (fun _ hf => ?_) (fun _ hf => ?_)
          · refine j_iload (q := 60) hC dX3_nextVictim_58 rfl 4 rfl ?_
            refine j_iload_n (q := 61) hC dX3_nextVictim_60 rfl rfl 2 rfl ?_
            refine j_iadd (q := 62) hC dX3_nextVictim_61 rfl hf (fun x3 hf => ?_)
            refine j_istore (q := 64) (lv' := [(5, .int x3), (0, .ref q_this), (2, .int b2), (3, .int b3), (4, .int b4)]) hC dX3_nextVictim_62 rfl (by decide) rfl ?_
            refine j_goto (tgt := 15) hC dX3_nextVictim_64 (by decide) ?_
            refine j_sub (lv' := [(0, .ref q_this), (2, .int b2), (3, .int b3), (4, .int b4), (5, .int x3)]) [1, 2, 3, 4, 0] rfl ?_
            exact ih b2 b3 b4 x3 hf
          · refine j_iload (q := 40) hC dX3_nextVictim_38 rfl 3 rfl ?_
            refine j_if_lt (tgt := 54) (q := 43) hC dX3_nextVictim_40 (by decide) rfl hf (fun _ hf => ?_) (fun _ hf => ?_)
            · refine j_iload (q := 56) hC dX3_nextVictim_54 rfl 4 rfl ?_
              refine j_istore (q := 58) (lv' := [(4, .int b5), (0, .ref q_this), (2, .int b2), (3, .int b3), (5, .int b5)]) hC dX3_nextVictim_56 rfl (by decide) rfl ?_
              refine j_iload (q := 60) hC dX3_nextVictim_58 rfl 4 rfl ?_
              refine j_iload_n (q := 61) hC dX3_nextVictim_60 rfl rfl 3 rfl ?_
              refine j_iadd (q := 62) hC dX3_nextVictim_61 rfl hf (fun x4 hf => ?_)
              refine j_istore (q := 64) (lv' := [(5, .int x4), (4, .int b5), (0, .ref q_this), (2, .int b2), (3, .int b3)]) hC dX3_nextVictim_62 rfl (by decide) rfl ?_
              refine j_goto (tgt := 15) hC dX3_nextVictim_64 (by decide) ?_
              refine j_sub (lv' := [(0, .ref q_this), (2, .int b2), (3, .int b3), (4, .int b5), (5, .int x4)]) [2, 3, 4, 1, 0] rfl ?_
              exact ih b2 b3 b5 x4 hf
            · refine j_aload_n (q := 44) hC dX3_nextVictim_43 rfl rfl 0 rfl ?_
              refine j_iload (q := 46) hC dX3_nextVictim_44 rfl 4 rfl ?_
              refine j_iload (q := 48) hC dX3_nextVictim_46 rfl 3 rfl ?_
              refine j_callV (q := 51) hC [.int b5, .int b4] [] (fun x5 : Int32 => some (.int x5)) (fun x5 => [(q_this, .inr (2, [.int s_sets, .int s_ways, .int s_weighed, .int s_plain, v_memory, v_words, .ref q_used, .ref q_last, .ref q_shape, v_dirty, .int s_clock, .int s_hits, .int s_victims, .int s_backs])), (q_last, .inl (E.2.1 0, 32, .inl s_last)), (q_shape, .inl (E.2.1 0, 32, .inl s_shape)), (q_used, .inl (E.2.1 0, 32, .inl s_used))]) (fun x5 => [(q_this, .inr (2, [.int s_sets, .int s_ways, .int s_weighed, .int s_plain, v_memory, v_words, .ref q_used, .ref q_last, .ref q_shape, v_dirty, .int s_clock, .int s_hits, .int s_victims, .int s_backs])), (q_last, .inl (E.2.1 0, 32, .inl s_last)), (q_shape, .inl (E.2.1 0, 32, .inl s_shape)), (q_used, .inl (E.2.1 0, 32, .inl s_used))]) (fun x5 => [.int x5]) [0, 1, 2, 3] [] hf (fun x5 hx => wX3_goesAhead E q_this q_last q_shape q_used s_sets s_ways s_weighed s_plain s_clock s_hits s_victims s_backs s_last s_shape s_used (v_memory) (v_words) (v_dirty) b5 b4 x5  hx) zy_X3_goesAhead zw_9610 (by unfold zRm; decide) rfl rfl (fun _ => rfl) (N := 4) (by decide) (fun _ => ⟨rfl, rfl, rfl⟩) rfl rfl rfl (Nat.le_of_ble_eq_true rfl) dX3_nextVictim_48 rfl rfl (fun _ => rfl) (fun x5 hf => ?_)
              refine j_if_eq (tgt := 58) (q := 54) hC dX3_nextVictim_51 (by decide) rfl hf (fun _ hf => ?_) (fun _ hf => ?_)
              · refine j_iload (q := 60) hC dX3_nextVictim_58 rfl 4 rfl ?_
                refine j_iload_n (q := 61) hC dX3_nextVictim_60 rfl rfl 2 rfl ?_
                refine j_iadd (q := 62) hC dX3_nextVictim_61 rfl hf (fun x6 hf => ?_)
                refine j_istore (q := 64) (lv' := [(5, .int x6), (0, .ref q_this), (2, .int b2), (3, .int b3), (4, .int b4)]) hC dX3_nextVictim_62 rfl (by decide) rfl ?_
                refine j_goto (tgt := 15) hC dX3_nextVictim_64 (by decide) ?_
                refine j_sub (lv' := [(0, .ref q_this), (2, .int b2), (3, .int b3), (4, .int b4), (5, .int x6)]) [1, 2, 3, 4, 0] rfl ?_
                exact ih b2 b3 b4 x6 hf
              · refine j_iload (q := 56) hC dX3_nextVictim_54 rfl 4 rfl ?_
                refine j_istore (q := 58) (lv' := [(4, .int b5), (0, .ref q_this), (2, .int b2), (3, .int b3), (5, .int b5)]) hC dX3_nextVictim_56 rfl (by decide) rfl ?_
                refine j_iload (q := 60) hC dX3_nextVictim_58 rfl 4 rfl ?_
                refine j_iload_n (q := 61) hC dX3_nextVictim_60 rfl rfl 3 rfl ?_
                refine j_iadd (q := 62) hC dX3_nextVictim_61 rfl hf (fun x7 hf => ?_)
                refine j_istore (q := 64) (lv' := [(5, .int x7), (4, .int b5), (0, .ref q_this), (2, .int b2), (3, .int b3)]) hC dX3_nextVictim_62 rfl (by decide) rfl ?_
                refine j_goto (tgt := 15) hC dX3_nextVictim_64 (by decide) ?_
                refine j_sub (lv' := [(0, .ref q_this), (2, .int b2), (3, .int b3), (4, .int b5), (5, .int x7)]) [2, 3, 4, 1, 0] rfl ?_
                exact ih b2 b3 b5 x7 hf
  unfold fX3_nextVictim at hf
  refine j_sub (lv' := [(0, .ref q_this), (1, .int a1), (2, .int a2)]) [0, 1, 2] rfl ?_
  refine j_aload_n (q := 1) hC dX3_nextVictim_0 rfl rfl 0 rfl ?_
  refine j_get (q := 4) hC zcl_X3 0 0 zw_165 ⟨rfl, rfl, by decide⟩ rfl rfl dX3_nextVictim_1 rfl ?_
  refine j_iconst (q := 5) (v := 1) hC dX3_nextVictim_4 rfl (by decide) ?_
  refine j_max (q := 8) hC zw_569 zw_maxs zw_ini_math zw_maxc ⟨by decide, Nat.le_of_ble_eq_true rfl, by decide, by decide⟩ dX3_nextVictim_5 rfl hf (fun x1 hf => ?_)
  refine j_istore_n (q := 9) (lv' := [(3, .int x1), (0, .ref q_this), (1, .int a1), (2, .int a2)]) hC dX3_nextVictim_8 rfl rfl (by decide) rfl ?_
  refine j_iconst (q := 10) (v := (-1)) hC dX3_nextVictim_9 rfl (by decide) ?_
  refine j_istore (q := 12) (lv' := [(4, .int (-1)), (3, .int x1), (0, .ref q_this), (1, .int a1), (2, .int a2)]) hC dX3_nextVictim_10 rfl (by decide) rfl ?_
  refine j_iload_n (q := 13) hC dX3_nextVictim_12 rfl rfl 3 rfl ?_
  refine j_istore (q := 15) (lv' := [(5, .int a1), (4, .int (-1)), (3, .int x1), (0, .ref q_this), (1, .int a1), (2, .int a2)]) hC dX3_nextVictim_13 rfl (by decide) rfl ?_
  refine j_sub (lv' := [(0, .ref q_this), (2, .int a2), (3, .int x1), (4, .int (-1)), (5, .int a1)]) [3, 5, 2, 1, 0] rfl ?_
  exact B15  zF a2 x1 (-1) a1 hf
noncomputable def fX3_writeBack (s_backs : Int32) (s_dirty : (Nat → Int32)) (s_memory : (Nat → Int32)) (s_words : (Nat → Int32)) (a1 : Int32) : Option (Int32 × (Nat → Int32) × (Nat → Int32)) :=
  zald s_dirty 32 a1 fun x1 =>
    if x1 = 1 then (zlet (a1 * 8 : Int32) fun x2 =>
    zlet (a1 * 8 : Int32) fun x3 =>
    zcpy s_words s_memory 256 256 x2 x3 8 fun x4 =>
    zast s_dirty 32 a1 0 fun x5 =>
    zlet (s_backs + 1 : Int32) fun x6 =>
    some (x6, x5, x4))
    else (some (s_backs, s_dirty, s_memory))
set_option maxHeartbeats 4000000 in
set_option maxRecDepth 100000 in
theorem wX3_writeBack (E : zE) (q_this : Nat) (q_dirty : Nat) (q_memory : Nat) (q_words : Nat) (s_sets : Int32) (s_ways : Int32) (s_weighed : Int32) (s_plain : Int32) (s_clock : Int32) (s_hits : Int32) (s_victims : Int32) (s_backs : Int32) (s_dirty : (Nat → Int32)) (s_memory : (Nat → Int32)) (s_words : (Nat → Int32)) (v_used : Value) (v_last : Value) (v_shape : Value) (a1 : Int32) (x : Int32 × (Nat → Int32) × (Nat → Int32)) (hf : fX3_writeBack s_backs s_dirty s_memory s_words a1 = some x) (l : Launch) (sz : Nat) : zM l yX3_writeBack cX3_writeBack 2 none { frames := 1, cells := 0, slots := 0, locals := 26 } E [.ref q_this, .int a1] [(q_this, .inr (2, [.int s_sets, .int s_ways, .int s_weighed, .int s_plain, .ref q_memory, .ref q_words, v_used, v_last, v_shape, .ref q_dirty, .int s_clock, .int s_hits, .int s_victims, .int s_backs])), (q_dirty, .inl (E.2.1 0, 32, .inl s_dirty)), (q_memory, .inl (E.2.1 0, 256, .inl s_memory)), (q_words, .inl (E.2.1 0, 256, .inl s_words))] sz none [(q_this, .inr (2, [.int s_sets, .int s_ways, .int s_weighed, .int s_plain, .ref q_memory, .ref q_words, v_used, v_last, v_shape, .ref q_dirty, .int s_clock, .int s_hits, .int s_victims, .int x.1])), (q_dirty, .inl (E.2.1 0, 32, .inl x.2.1)), (q_memory, .inl (E.2.1 0, 256, .inl x.2.2)), (q_words, .inl (E.2.1 0, 256, .inl s_words))] := by
  refine zEnter (by decide) (Nat.le_of_ble_eq_true rfl) ?_
  intro C hC hR
  change zC C E cX3_writeBack "PackedCache$Store" 2 _ at hC
  unfold fX3_writeBack at hf
  refine j_sub (lv' := [(0, .ref q_this), (1, .int a1)]) [0, 1] rfl ?_
  refine j_aload_n (q := 1) hC dX3_writeBack_0 rfl rfl 0 rfl ?_
  refine j_get (q := 4) hC zcl_X3 0 9 zw_178 ⟨rfl, rfl, by decide⟩ rfl rfl dX3_writeBack_1 rfl ?_
  refine j_iload_n (q := 5) hC dX3_writeBack_4 rfl rfl 1 rfl ?_
  refine j_iald (q := 6) hC 1 rfl dX3_writeBack_5 rfl hf (fun x1 hf => ?_)
  refine j_iconst (q := 7) (v := 1) hC dX3_writeBack_6 rfl (by decide) ?_
  refine j_icmp_ne (tgt := 48) (q := 10) hC dX3_writeBack_7 (by decide) rfl hf (fun _ hf => ?_) (fun _ hf => ?_)
  · have hx := Option.some.inj hf
    exact j_vret hC hR dX3_writeBack_48 rfl (by rw [← hx])
  · refine j_aload_n (q := 11) hC dX3_writeBack_10 rfl rfl 0 rfl ?_
    refine j_get (q := 14) hC zcl_X3 0 5 zw_171 ⟨rfl, rfl, by decide⟩ rfl rfl dX3_writeBack_11 rfl ?_
    refine j_iload_n (q := 15) hC dX3_writeBack_14 rfl rfl 1 rfl ?_
    refine j_bipush (q := 17) (v := 8) hC dX3_writeBack_15 rfl (by decide) ?_
    refine j_imul (q := 18) hC dX3_writeBack_17 rfl hf (fun x2 hf => ?_)
    refine j_aload_n (q := 19) hC dX3_writeBack_18 rfl rfl 0 rfl ?_
    refine j_get (q := 22) hC zcl_X3 0 4 zw_169 ⟨rfl, rfl, by decide⟩ rfl rfl dX3_writeBack_19 rfl ?_
    refine j_iload_n (q := 23) hC dX3_writeBack_22 rfl rfl 1 rfl ?_
    refine j_bipush (q := 25) (v := 8) hC dX3_writeBack_23 rfl (by decide) ?_
    refine j_imul (q := 26) hC dX3_writeBack_25 rfl hf (fun x3 hf => ?_)
    refine j_bipush (q := 28) (v := 8) hC dX3_writeBack_26 rfl (by decide) ?_
    refine j_copy (q := 31) hC 3 2 (fun x4 => [(q_this, .inr (2, [.int s_sets, .int s_ways, .int s_weighed, .int s_plain, .ref q_memory, .ref q_words, v_used, v_last, v_shape, .ref q_dirty, .int s_clock, .int s_hits, .int s_victims, .int s_backs])), (q_dirty, .inl (E.2.1 0, 32, .inl s_dirty)), (q_memory, .inl (E.2.1 0, 256, .inl x4)), (q_words, .inl (E.2.1 0, 256, .inl s_words))]) rfl rfl (fun _ => rfl) zw_438 zw_acn zw_acs zw_ini_sys ⟨by decide, Nat.le_of_ble_eq_true rfl⟩ dX3_writeBack_28 rfl hf (fun x4 hf => ?_)
    refine j_aload_n (q := 32) hC dX3_writeBack_31 rfl rfl 0 rfl ?_
    refine j_get (q := 35) hC zcl_X3 0 9 zw_178 ⟨rfl, rfl, by decide⟩ rfl rfl dX3_writeBack_32 rfl ?_
    refine j_iload_n (q := 36) hC dX3_writeBack_35 rfl rfl 1 rfl ?_
    refine j_iconst (q := 37) (v := 0) hC dX3_writeBack_36 rfl (by decide) ?_
    refine j_iast (q := 38) hC (fun x5 => [(q_this, .inr (2, [.int s_sets, .int s_ways, .int s_weighed, .int s_plain, .ref q_memory, .ref q_words, v_used, v_last, v_shape, .ref q_dirty, .int s_clock, .int s_hits, .int s_victims, .int s_backs])), (q_dirty, .inl (E.2.1 0, 32, .inl x5)), (q_memory, .inl (E.2.1 0, 256, .inl x4)), (q_words, .inl (E.2.1 0, 256, .inl s_words))]) 1 rfl (fun _ => rfl) dX3_writeBack_37 rfl hf (fun x5 hf => ?_)
    refine j_aload_n (q := 39) hC dX3_writeBack_38 rfl rfl 0 rfl ?_
    refine j_dup (q := 40) hC dX3_writeBack_39 rfl rfl ?_
    refine j_get (q := 43) hC zcl_X3 0 13 zw_185 ⟨rfl, rfl, by decide⟩ rfl rfl dX3_writeBack_40 rfl ?_
    refine j_iconst (q := 44) (v := 1) hC dX3_writeBack_43 rfl (by decide) ?_
    refine j_iadd (q := 45) hC dX3_writeBack_44 rfl hf (fun x6 hf => ?_)
    refine j_put (q := 48) (host := "") hC zcl_X3 0 13 (ws' := [(q_this, .inr (2, [.int s_sets, .int s_ways, .int s_weighed, .int s_plain, .ref q_memory, .ref q_words, v_used, v_last, v_shape, .ref q_dirty, .int s_clock, .int s_hits, .int s_victims, .int x6])), (q_dirty, .inl (E.2.1 0, 32, .inl x5)), (q_memory, .inl (E.2.1 0, 256, .inl x4)), (q_words, .inl (E.2.1 0, 256, .inl s_words))]) zw_185 ⟨rfl, rfl, by decide, rfl⟩ rfl rfl rfl (Nat.le_of_ble_eq_true rfl) rfl dX3_writeBack_45 rfl ?_
    have hx := Option.some.inj hf
    exact j_vret hC hR dX3_writeBack_48 rfl (by rw [← hx])
noncomputable def fX3_forgetLine (s_backs : Int32) (s_dirty : (Nat → Int32)) (s_memory : (Nat → Int32)) (s_used : (Nat → Int32)) (s_words : (Nat → Int32)) (a1 : Int32) : Option (Int32 × (Nat → Int32) × (Nat → Int32) × (Nat → Int32)) :=
  (fX3_writeBack s_backs s_dirty s_memory s_words a1).bind fun x1 =>
    zast s_used 32 a1 0 fun x2 =>
    some (x1.1, x1.2.1, x1.2.2, x2)
set_option maxHeartbeats 4000000 in
set_option maxRecDepth 100000 in
theorem wX3_forgetLine (E : zE) (q_this : Nat) (q_dirty : Nat) (q_memory : Nat) (q_used : Nat) (q_words : Nat) (s_sets : Int32) (s_ways : Int32) (s_weighed : Int32) (s_plain : Int32) (s_clock : Int32) (s_hits : Int32) (s_victims : Int32) (s_backs : Int32) (s_dirty : (Nat → Int32)) (s_memory : (Nat → Int32)) (s_used : (Nat → Int32)) (s_words : (Nat → Int32)) (v_last : Value) (v_shape : Value) (a1 : Int32) (x : Int32 × (Nat → Int32) × (Nat → Int32) × (Nat → Int32)) (hf : fX3_forgetLine s_backs s_dirty s_memory s_used s_words a1 = some x) (l : Launch) (sz : Nat) : zM l yX3_forgetLine cX3_forgetLine 2 none { frames := 2, cells := 0, slots := 0, locals := 47 } E [.ref q_this, .int a1] [(q_this, .inr (2, [.int s_sets, .int s_ways, .int s_weighed, .int s_plain, .ref q_memory, .ref q_words, .ref q_used, v_last, v_shape, .ref q_dirty, .int s_clock, .int s_hits, .int s_victims, .int s_backs])), (q_dirty, .inl (E.2.1 0, 32, .inl s_dirty)), (q_memory, .inl (E.2.1 0, 256, .inl s_memory)), (q_used, .inl (E.2.1 0, 32, .inl s_used)), (q_words, .inl (E.2.1 0, 256, .inl s_words))] sz none [(q_this, .inr (2, [.int s_sets, .int s_ways, .int s_weighed, .int s_plain, .ref q_memory, .ref q_words, .ref q_used, v_last, v_shape, .ref q_dirty, .int s_clock, .int s_hits, .int s_victims, .int x.1])), (q_dirty, .inl (E.2.1 0, 32, .inl x.2.1)), (q_memory, .inl (E.2.1 0, 256, .inl x.2.2.1)), (q_used, .inl (E.2.1 0, 32, .inl x.2.2.2)), (q_words, .inl (E.2.1 0, 256, .inl s_words))] := by
  refine zEnter (by decide) (Nat.le_of_ble_eq_true rfl) ?_
  intro C hC hR
  change zC C E cX3_forgetLine "PackedCache$Store" 2 _ at hC
  unfold fX3_forgetLine at hf
  refine j_sub (lv' := [(0, .ref q_this), (1, .int a1)]) [0, 1] rfl ?_
  refine j_aload_n (q := 1) hC dX3_forgetLine_0 rfl rfl 0 rfl ?_
  refine j_iload_n (q := 2) hC dX3_forgetLine_1 rfl rfl 1 rfl ?_
  refine j_callV (q := 5) hC [.int a1] [] (fun x1 : Int32 × (Nat → Int32) × (Nat → Int32) => none) (fun x1 => [(q_this, .inr (2, [.int s_sets, .int s_ways, .int s_weighed, .int s_plain, .ref q_memory, .ref q_words, .ref q_used, v_last, v_shape, .ref q_dirty, .int s_clock, .int s_hits, .int s_victims, .int x1.1])), (q_dirty, .inl (E.2.1 0, 32, .inl x1.2.1)), (q_memory, .inl (E.2.1 0, 256, .inl x1.2.2)), (q_words, .inl (E.2.1 0, 256, .inl s_words))]) (fun x1 => [(q_this, .inr (2, [.int s_sets, .int s_ways, .int s_weighed, .int s_plain, .ref q_memory, .ref q_words, .ref q_used, v_last, v_shape, .ref q_dirty, .int s_clock, .int s_hits, .int s_victims, .int x1.1])), (q_dirty, .inl (E.2.1 0, 32, .inl x1.2.1)), (q_memory, .inl (E.2.1 0, 256, .inl x1.2.2)), (q_used, .inl (E.2.1 0, 32, .inl s_used)), (q_words, .inl (E.2.1 0, 256, .inl s_words))]) (fun x1 => []) [0, 1, 2, 4] [3] hf (fun x1 hx => wX3_writeBack E q_this q_dirty q_memory q_words s_sets s_ways s_weighed s_plain s_clock s_hits s_victims s_backs s_dirty s_memory s_words (.ref q_used) (v_last) (v_shape) a1 x1  hx) zy_X3_writeBack zw_640 (by unfold zRm; decide) rfl rfl (fun _ => rfl) (N := 5) (by decide) (fun _ => ⟨rfl, rfl, rfl⟩) rfl rfl rfl (Nat.le_of_ble_eq_true rfl) dX3_forgetLine_2 rfl rfl (fun _ => rfl) (fun x1 hf => ?_)
  refine j_aload_n (q := 6) hC dX3_forgetLine_5 rfl rfl 0 rfl ?_
  refine j_get (q := 9) hC zcl_X3 0 6 zw_173 ⟨rfl, rfl, by decide⟩ rfl rfl dX3_forgetLine_6 rfl ?_
  refine j_iload_n (q := 10) hC dX3_forgetLine_9 rfl rfl 1 rfl ?_
  refine j_iconst (q := 11) (v := 0) hC dX3_forgetLine_10 rfl (by decide) ?_
  refine j_iast (q := 12) hC (fun x2 => [(q_this, .inr (2, [.int s_sets, .int s_ways, .int s_weighed, .int s_plain, .ref q_memory, .ref q_words, .ref q_used, v_last, v_shape, .ref q_dirty, .int s_clock, .int s_hits, .int s_victims, .int x1.1])), (q_dirty, .inl (E.2.1 0, 32, .inl x1.2.1)), (q_memory, .inl (E.2.1 0, 256, .inl x1.2.2)), (q_used, .inl (E.2.1 0, 32, .inl x2)), (q_words, .inl (E.2.1 0, 256, .inl s_words))]) 3 rfl (fun _ => rfl) dX3_forgetLine_11 rfl hf (fun x2 hf => ?_)
  have hx := Option.some.inj hf
  exact j_vret hC hR dX3_forgetLine_12 rfl (by rw [← hx])
noncomputable def fX3_makeRoomFor_76 (s_sets : Int32) (s_ways : Int32) (s_weighed : Int32) (s_plain : Int32) (s_last : (Nat → Int32)) (s_shape : (Nat → Int32)) (s_words : (Nat → Int32)) (K47 : Int32 → Int32 → Int32 → Int32 → Int32 → Int32 → Int32 → (Nat → Int32) → (Nat → Int32) → (Nat → Int32) → Option (Int32 × Int32 × (Nat → Int32) × (Nat → Int32) × (Nat → Int32))) (b1 : Int32) (b2 : Int32) (b3 : Int32) (b4 : Int32) (b5 : Int32) (s_victims : Int32) (s_backs : Int32) (s_dirty : (Nat → Int32)) (s_memory : (Nat → Int32)) (s_used : (Nat → Int32)) : Option (Int32 × Int32 × (Nat → Int32) × (Nat → Int32) × (Nat → Int32)) :=
  (fX3_nextVictim s_sets s_weighed s_last s_shape s_used b2 b1).bind fun x1 =>
    if 0 ≤ x1 then (zlet (s_victims + 1 : Int32) fun x2 =>
    (fX3_forgetLine s_backs s_dirty s_memory s_used s_words x1).bind fun x3 =>
    zlet (b5 + 1) fun x4 =>
    K47 b1 b2 b3 b4 x4 x2 x3.1 x3.2.1 x3.2.2.1 x3.2.2.2)
    else (some (s_victims, s_backs, s_dirty, s_memory, s_used))
noncomputable def fX3_makeRoomFor_47 (s_sets : Int32) (s_ways : Int32) (s_weighed : Int32) (s_plain : Int32) (s_last : (Nat → Int32)) (s_shape : (Nat → Int32)) (s_words : (Nat → Int32))  : Nat → Int32 → Int32 → Int32 → Int32 → Int32 → Int32 → Int32 → (Nat → Int32) → (Nat → Int32) → (Nat → Int32) → Option (Int32 × Int32 × (Nat → Int32) × (Nat → Int32) × (Nat → Int32))
  | 0, _, _, _, _, _, _, _, _, _, _ => none
  | m + 1, b1, b2, b3, b4, b5, s_victims, s_backs, s_dirty, s_memory, s_used =>
    if 32 ≤ b5 then (some (s_victims, s_backs, s_dirty, s_memory, s_used))
    else ((fX3_tagsIn s_sets s_used b2 b1).bind fun x1 =>
    if b3 ≤ x1 then (fX3_makeRoomFor_76 s_sets s_ways s_weighed s_plain s_last s_shape s_words (fX3_makeRoomFor_47 s_sets s_ways s_weighed s_plain s_last s_shape s_words  m) b1 b2 b3 b4 b5 s_victims s_backs s_dirty s_memory s_used)
    else ((fX3_segmentsIn s_sets s_shape s_used b2 b1).bind fun x2 =>
    if b4 < x2 then (fX3_makeRoomFor_76 s_sets s_ways s_weighed s_plain s_last s_shape s_words (fX3_makeRoomFor_47 s_sets s_ways s_weighed s_plain s_last s_shape s_words  m) b1 b2 b3 b4 b5 s_victims s_backs s_dirty s_memory s_used)
    else (some (s_victims, s_backs, s_dirty, s_memory, s_used))))
noncomputable def fX3_makeRoomFor_26 (s_sets : Int32) (s_ways : Int32) (s_weighed : Int32) (s_plain : Int32) (s_last : (Nat → Int32)) (s_shape : (Nat → Int32)) (s_words : (Nat → Int32))  (b1 : Int32) (b2 : Int32) (t0 : Int32) (s_victims : Int32) (s_backs : Int32) (s_dirty : (Nat → Int32)) (s_memory : (Nat → Int32)) (s_used : (Nat → Int32)) : Option (Int32 × Int32 × (Nat → Int32) × (Nat → Int32) × (Nat → Int32)) :=
  (fX3_segmentRoom s_ways).bind fun x1 =>
    zald s_shape 32 b1 fun x2 =>
    zald (zSv 1) 8 x2 fun x3 =>
    zlet (x1 - x3 : Int32) fun x4 =>
    fX3_makeRoomFor_47 s_sets s_ways s_weighed s_plain s_last s_shape s_words  zF b1 b2 t0 x4 0 s_victims s_backs s_dirty s_memory s_used
noncomputable def fX3_makeRoomFor (s_sets : Int32) (s_ways : Int32) (s_weighed : Int32) (s_plain : Int32) (s_victims : Int32) (s_backs : Int32) (s_dirty : (Nat → Int32)) (s_last : (Nat → Int32)) (s_memory : (Nat → Int32)) (s_shape : (Nat → Int32)) (s_used : (Nat → Int32)) (s_words : (Nat → Int32)) (a1 : Int32) : Option (Int32 × Int32 × (Nat → Int32) × (Nat → Int32) × (Nat → Int32)) :=
  (fX3_setOf s_sets a1).bind fun x1 =>
    if s_plain = 0 then (zlet (2 * s_ways : Int32) fun x2 =>
    fX3_makeRoomFor_26 s_sets s_ways s_weighed s_plain s_last s_shape s_words  a1 x1 x2 s_victims s_backs s_dirty s_memory s_used)
    else (fX3_makeRoomFor_26 s_sets s_ways s_weighed s_plain s_last s_shape s_words  a1 x1 s_ways s_victims s_backs s_dirty s_memory s_used)
set_option maxHeartbeats 4000000 in
set_option maxRecDepth 100000 in
theorem wX3_makeRoomFor (E : zE) (q_this : Nat) (q_dirty : Nat) (q_last : Nat) (q_memory : Nat) (q_shape : Nat) (q_used : Nat) (q_words : Nat) (s_sets : Int32) (s_ways : Int32) (s_weighed : Int32) (s_plain : Int32) (s_clock : Int32) (s_hits : Int32) (s_victims : Int32) (s_backs : Int32) (s_dirty : (Nat → Int32)) (s_last : (Nat → Int32)) (s_memory : (Nat → Int32)) (s_shape : (Nat → Int32)) (s_used : (Nat → Int32)) (s_words : (Nat → Int32)) (a1 : Int32) (x : Int32 × Int32 × (Nat → Int32) × (Nat → Int32) × (Nat → Int32)) (hf : fX3_makeRoomFor s_sets s_ways s_weighed s_plain s_victims s_backs s_dirty s_last s_memory s_shape s_used s_words a1 = some x) (l : Launch) (sz : Nat) : zM l yX3_makeRoomFor cX3_makeRoomFor 7 none { frames := 3, cells := 0, slots := 0, locals := 68 } E [.ref q_this, .int a1] [(q_this, .inr (2, [.int s_sets, .int s_ways, .int s_weighed, .int s_plain, .ref q_memory, .ref q_words, .ref q_used, .ref q_last, .ref q_shape, .ref q_dirty, .int s_clock, .int s_hits, .int s_victims, .int s_backs])), (q_dirty, .inl (E.2.1 0, 32, .inl s_dirty)), (q_last, .inl (E.2.1 0, 32, .inl s_last)), (q_memory, .inl (E.2.1 0, 256, .inl s_memory)), (q_shape, .inl (E.2.1 0, 32, .inl s_shape)), (q_used, .inl (E.2.1 0, 32, .inl s_used)), (q_words, .inl (E.2.1 0, 256, .inl s_words))] sz none [(q_this, .inr (2, [.int s_sets, .int s_ways, .int s_weighed, .int s_plain, .ref q_memory, .ref q_words, .ref q_used, .ref q_last, .ref q_shape, .ref q_dirty, .int s_clock, .int s_hits, .int x.1, .int x.2.1])), (q_dirty, .inl (E.2.1 0, 32, .inl x.2.2.1)), (q_last, .inl (E.2.1 0, 32, .inl s_last)), (q_memory, .inl (E.2.1 0, 256, .inl x.2.2.2.1)), (q_shape, .inl (E.2.1 0, 32, .inl s_shape)), (q_used, .inl (E.2.1 0, 32, .inl x.2.2.2.2)), (q_words, .inl (E.2.1 0, 256, .inl s_words))] := by
  refine zEnter (by decide) (Nat.le_of_ble_eq_true rfl) ?_
  intro C hC hR
  change zC C E cX3_makeRoomFor "PackedCache$Store" 7 _ at hC
  have B76 : ∀ (K47 : Int32 → Int32 → Int32 → Int32 → Int32 → Int32 → Int32 → (Nat → Int32) → (Nat → Int32) → (Nat → Int32) → Option (Int32 × Int32 × (Nat → Int32) × (Nat → Int32) × (Nat → Int32))), (∀ (b1 : Int32) (b2 : Int32) (b3 : Int32) (b4 : Int32) (b5 : Int32) (s_victims : Int32) (s_backs : Int32) (s_dirty : (Nat → Int32)) (s_memory : (Nat → Int32)) (s_used : (Nat → Int32)), K47 b1 b2 b3 b4 b5 s_victims s_backs s_dirty s_memory s_used = some x → J C 0 0 [(q_this, .inr (2, [.int s_sets, .int s_ways, .int s_weighed, .int s_plain, .ref q_memory, .ref q_words, .ref q_used, .ref q_last, .ref q_shape, .ref q_dirty, .int s_clock, .int s_hits, .int s_victims, .int s_backs])), (q_dirty, .inl (E.2.1 0, 32, .inl s_dirty)), (q_last, .inl (E.2.1 0, 32, .inl s_last)), (q_memory, .inl (E.2.1 0, 256, .inl s_memory)), (q_shape, .inl (E.2.1 0, 32, .inl s_shape)), (q_used, .inl (E.2.1 0, 32, .inl s_used)), (q_words, .inl (E.2.1 0, 256, .inl s_words))] [(0, .ref q_this), (1, .int b1), (2, .int b2), (3, .int b3), (4, .int b4), (5, .int b5)] 47 []) → ∀ (b1 : Int32) (b2 : Int32) (b3 : Int32) (b4 : Int32) (b5 : Int32) (s_victims : Int32) (s_backs : Int32) (s_dirty : (Nat → Int32)) (s_memory : (Nat → Int32)) (s_used : (Nat → Int32)), fX3_makeRoomFor_76 s_sets s_ways s_weighed s_plain s_last s_shape s_words K47 b1 b2 b3 b4 b5 s_victims s_backs s_dirty s_memory s_used = some x → J C 0 0 [(q_this, .inr (2, [.int s_sets, .int s_ways, .int s_weighed, .int s_plain, .ref q_memory, .ref q_words, .ref q_used, .ref q_last, .ref q_shape, .ref q_dirty, .int s_clock, .int s_hits, .int s_victims, .int s_backs])), (q_dirty, .inl (E.2.1 0, 32, .inl s_dirty)), (q_last, .inl (E.2.1 0, 32, .inl s_last)), (q_memory, .inl (E.2.1 0, 256, .inl s_memory)), (q_shape, .inl (E.2.1 0, 32, .inl s_shape)), (q_used, .inl (E.2.1 0, 32, .inl s_used)), (q_words, .inl (E.2.1 0, 256, .inl s_words))] [(0, .ref q_this), (1, .int b1), (2, .int b2), (3, .int b3), (4, .int b4), (5, .int b5)] 76 [] := by
    intro K47 H47 b1 b2 b3 b4 b5 s_victims s_backs s_dirty s_memory s_used hf
    unfold fX3_makeRoomFor_76 at hf
    refine j_aload_n (q := 77) hC dX3_makeRoomFor_76 rfl rfl 0 rfl ?_
    refine j_iload_n (q := 78) hC dX3_makeRoomFor_77 rfl rfl 2 rfl ?_
    refine j_iload_n (q := 79) hC dX3_makeRoomFor_78 rfl rfl 1 rfl ?_
    refine j_callV (q := 82) hC [.int b2, .int b1] [] (fun x1 : Int32 => some (.int x1)) (fun x1 => [(q_this, .inr (2, [.int s_sets, .int s_ways, .int s_weighed, .int s_plain, .ref q_memory, .ref q_words, .ref q_used, .ref q_last, .ref q_shape, .ref q_dirty, .int s_clock, .int s_hits, .int s_victims, .int s_backs])), (q_last, .inl (E.2.1 0, 32, .inl s_last)), (q_shape, .inl (E.2.1 0, 32, .inl s_shape)), (q_used, .inl (E.2.1 0, 32, .inl s_used))]) (fun x1 => [(q_this, .inr (2, [.int s_sets, .int s_ways, .int s_weighed, .int s_plain, .ref q_memory, .ref q_words, .ref q_used, .ref q_last, .ref q_shape, .ref q_dirty, .int s_clock, .int s_hits, .int s_victims, .int s_backs])), (q_dirty, .inl (E.2.1 0, 32, .inl s_dirty)), (q_last, .inl (E.2.1 0, 32, .inl s_last)), (q_memory, .inl (E.2.1 0, 256, .inl s_memory)), (q_shape, .inl (E.2.1 0, 32, .inl s_shape)), (q_used, .inl (E.2.1 0, 32, .inl s_used)), (q_words, .inl (E.2.1 0, 256, .inl s_words))]) (fun x1 => [.int x1]) [0, 2, 4, 5] [1, 3, 6] hf (fun x1 hx => wX3_nextVictim E q_this q_last q_shape q_used s_sets s_ways s_weighed s_plain s_clock s_hits s_victims s_backs s_last s_shape s_used (.ref q_memory) (.ref q_words) (.ref q_dirty) b2 b1 x1  hx) zy_X3_nextVictim zw_635 (by unfold zRm; decide) rfl rfl (fun _ => rfl) (N := 7) (by decide) (fun _ => ⟨rfl, rfl, rfl⟩) rfl rfl rfl (Nat.le_of_ble_eq_true rfl) dX3_makeRoomFor_79 rfl rfl (fun _ => rfl) (fun x1 hf => ?_)
    refine j_istore (q := 84) (lv' := [(6, .int x1), (0, .ref q_this), (1, .int b1), (2, .int b2), (3, .int b3), (4, .int b4), (5, .int b5)]) hC dX3_makeRoomFor_82 rfl (by decide) rfl ?_
    refine j_iload (q := 86) hC dX3_makeRoomFor_84 rfl 0 rfl ?_
    refine j_if_ge (tgt := 90) (q := 89) hC dX3_makeRoomFor_86 (by decide) rfl hf (fun _ hf => ?_) (fun _ hf => ?_)
    · refine j_aload_n (q := 91) hC dX3_makeRoomFor_90 rfl rfl 1 rfl ?_
      refine j_dup (q := 92) hC dX3_makeRoomFor_91 rfl rfl ?_
      refine j_get (q := 95) hC zcl_X3 0 12 zw_183 ⟨rfl, rfl, by decide⟩ rfl rfl dX3_makeRoomFor_92 rfl ?_
      refine j_iconst (q := 96) (v := 1) hC dX3_makeRoomFor_95 rfl (by decide) ?_
      refine j_iadd (q := 97) hC dX3_makeRoomFor_96 rfl hf (fun x2 hf => ?_)
      refine j_put (q := 100) (host := "") hC zcl_X3 0 12 (ws' := [(q_this, .inr (2, [.int s_sets, .int s_ways, .int s_weighed, .int s_plain, .ref q_memory, .ref q_words, .ref q_used, .ref q_last, .ref q_shape, .ref q_dirty, .int s_clock, .int s_hits, .int x2, .int s_backs])), (q_dirty, .inl (E.2.1 0, 32, .inl s_dirty)), (q_last, .inl (E.2.1 0, 32, .inl s_last)), (q_memory, .inl (E.2.1 0, 256, .inl s_memory)), (q_shape, .inl (E.2.1 0, 32, .inl s_shape)), (q_used, .inl (E.2.1 0, 32, .inl s_used)), (q_words, .inl (E.2.1 0, 256, .inl s_words))]) zw_183 ⟨rfl, rfl, by decide, rfl⟩ rfl rfl rfl (Nat.le_of_ble_eq_true rfl) rfl dX3_makeRoomFor_97 rfl ?_
      refine j_aload_n (q := 101) hC dX3_makeRoomFor_100 rfl rfl 1 rfl ?_
      refine j_iload (q := 103) hC dX3_makeRoomFor_101 rfl 0 rfl ?_
      refine j_callV (q := 106) hC [.int x1] [] (fun x3 : Int32 × (Nat → Int32) × (Nat → Int32) × (Nat → Int32) => none) (fun x3 => [(q_this, .inr (2, [.int s_sets, .int s_ways, .int s_weighed, .int s_plain, .ref q_memory, .ref q_words, .ref q_used, .ref q_last, .ref q_shape, .ref q_dirty, .int s_clock, .int s_hits, .int x2, .int x3.1])), (q_dirty, .inl (E.2.1 0, 32, .inl x3.2.1)), (q_memory, .inl (E.2.1 0, 256, .inl x3.2.2.1)), (q_used, .inl (E.2.1 0, 32, .inl x3.2.2.2)), (q_words, .inl (E.2.1 0, 256, .inl s_words))]) (fun x3 => [(q_this, .inr (2, [.int s_sets, .int s_ways, .int s_weighed, .int s_plain, .ref q_memory, .ref q_words, .ref q_used, .ref q_last, .ref q_shape, .ref q_dirty, .int s_clock, .int s_hits, .int x2, .int x3.1])), (q_dirty, .inl (E.2.1 0, 32, .inl x3.2.1)), (q_last, .inl (E.2.1 0, 32, .inl s_last)), (q_memory, .inl (E.2.1 0, 256, .inl x3.2.2.1)), (q_shape, .inl (E.2.1 0, 32, .inl s_shape)), (q_used, .inl (E.2.1 0, 32, .inl x3.2.2.2)), (q_words, .inl (E.2.1 0, 256, .inl s_words))]) (fun x3 => []) [0, 1, 3, 5, 6] [2, 4] hf (fun x3 hx => wX3_forgetLine E q_this q_dirty q_memory q_used q_words s_sets s_ways s_weighed s_plain s_clock s_hits x2 s_backs s_dirty s_memory s_used s_words (.ref q_last) (.ref q_shape) x1 x3  hx) zy_X3_forgetLine zw_636 (by unfold zRm; decide) rfl rfl (fun _ => rfl) (N := 7) (by decide) (fun _ => ⟨rfl, rfl, rfl⟩) rfl rfl rfl (Nat.le_of_ble_eq_true rfl) dX3_makeRoomFor_103 rfl rfl (fun _ => rfl) (fun x3 hf => ?_)
      refine j_iinc (q := 109) (v := 1) hC (fun x4 => [(5, .int x4), (6, .int x1), (0, .ref q_this), (1, .int b1), (2, .int b2), (3, .int b3), (4, .int b4)]) dX3_makeRoomFor_106 rfl 6 rfl (by decide) (by decide) (fun _ => rfl) hf (fun x4 hf => ?_)
      refine j_goto (tgt := 47) hC dX3_makeRoomFor_109 (by decide) ?_
      refine j_sub (lv' := [(0, .ref q_this), (1, .int b1), (2, .int b2), (3, .int b3), (4, .int b4), (5, .int x4)]) [2, 3, 4, 5, 6, 0] rfl ?_
      exact H47 b1 b2 b3 b4 x4 x2 x3.1 x3.2.1 x3.2.2.1 x3.2.2.2 hf
    · have hx := Option.some.inj hf
      exact j_vret hC hR dX3_makeRoomFor_89 rfl (by rw [← hx])
  have B47 : ∀ (N : Nat), ∀ (b1 : Int32) (b2 : Int32) (b3 : Int32) (b4 : Int32) (b5 : Int32) (s_victims : Int32) (s_backs : Int32) (s_dirty : (Nat → Int32)) (s_memory : (Nat → Int32)) (s_used : (Nat → Int32)), fX3_makeRoomFor_47 s_sets s_ways s_weighed s_plain s_last s_shape s_words  N b1 b2 b3 b4 b5 s_victims s_backs s_dirty s_memory s_used = some x → J C 0 0 [(q_this, .inr (2, [.int s_sets, .int s_ways, .int s_weighed, .int s_plain, .ref q_memory, .ref q_words, .ref q_used, .ref q_last, .ref q_shape, .ref q_dirty, .int s_clock, .int s_hits, .int s_victims, .int s_backs])), (q_dirty, .inl (E.2.1 0, 32, .inl s_dirty)), (q_last, .inl (E.2.1 0, 32, .inl s_last)), (q_memory, .inl (E.2.1 0, 256, .inl s_memory)), (q_shape, .inl (E.2.1 0, 32, .inl s_shape)), (q_used, .inl (E.2.1 0, 32, .inl s_used)), (q_words, .inl (E.2.1 0, 256, .inl s_words))] [(0, .ref q_this), (1, .int b1), (2, .int b2), (3, .int b3), (4, .int b4), (5, .int b5)] 47 [] := by
    intro  N
    induction N with
    | zero =>
      intro b1 b2 b3 b4 b5 s_victims s_backs s_dirty s_memory s_used hf
      rw [fX3_makeRoomFor_47] at hf
      cases hf
    | succ m ih =>
      intro b1 b2 b3 b4 b5 s_victims s_backs s_dirty s_memory s_used hf
      rw [fX3_makeRoomFor_47] at hf
      refine j_iload (q := 49) hC dX3_makeRoomFor_47 rfl 5 rfl ?_
      refine j_bipush (q := 51) (v := 32) hC dX3_makeRoomFor_49 rfl (by decide) ?_
      refine j_icmp_ge (tgt := 112) (q := 54) hC dX3_makeRoomFor_51 (by decide) rfl hf (fun _ hf => ?_) (fun _ hf => ?_)
      · have hx := Option.some.inj hf
        exact j_vret hC hR dX3_makeRoomFor_112 rfl (by rw [← hx])
      · refine j_aload_n (q := 55) hC dX3_makeRoomFor_54 rfl rfl 0 rfl ?_
        refine j_iload_n (q := 56) hC dX3_makeRoomFor_55 rfl rfl 2 rfl ?_
        refine j_iload_n (q := 57) hC dX3_makeRoomFor_56 rfl rfl 1 rfl ?_
        refine j_callV (q := 60) hC [.int b2, .int b1] [] (fun x1 : Int32 => some (.int x1)) (fun x1 => [(q_this, .inr (2, [.int s_sets, .int s_ways, .int s_weighed, .int s_plain, .ref q_memory, .ref q_words, .ref q_used, .ref q_last, .ref q_shape, .ref q_dirty, .int s_clock, .int s_hits, .int s_victims, .int s_backs])), (q_used, .inl (E.2.1 0, 32, .inl s_used))]) (fun x1 => [(q_this, .inr (2, [.int s_sets, .int s_ways, .int s_weighed, .int s_plain, .ref q_memory, .ref q_words, .ref q_used, .ref q_last, .ref q_shape, .ref q_dirty, .int s_clock, .int s_hits, .int s_victims, .int s_backs])), (q_dirty, .inl (E.2.1 0, 32, .inl s_dirty)), (q_last, .inl (E.2.1 0, 32, .inl s_last)), (q_memory, .inl (E.2.1 0, 256, .inl s_memory)), (q_shape, .inl (E.2.1 0, 32, .inl s_shape)), (q_used, .inl (E.2.1 0, 32, .inl s_used)), (q_words, .inl (E.2.1 0, 256, .inl s_words))]) (fun x1 => [.int x1]) [0, 5] [1, 2, 3, 4, 6] hf (fun x1 hx => wX3_tagsIn E q_this q_used s_sets s_ways s_weighed s_plain s_clock s_hits s_victims s_backs s_used (.ref q_memory) (.ref q_words) (.ref q_last) (.ref q_shape) (.ref q_dirty) b2 b1 x1  hx) zy_X3_tagsIn zw_633 (by unfold zRm; decide) rfl rfl (fun _ => rfl) (N := 7) (by decide) (fun _ => ⟨rfl, rfl, rfl⟩) rfl rfl rfl (Nat.le_of_ble_eq_true rfl) dX3_makeRoomFor_57 rfl rfl (fun _ => rfl) (fun x1 hf => ?_)
        refine j_iload_n (q := 61) hC dX3_makeRoomFor_60 rfl rfl 3 rfl ?_
        refine j_icmp_ge (tgt := 76) (q := 64) hC dX3_makeRoomFor_61 (by decide) rfl hf (fun _ hf => ?_) (fun _ hf => ?_)
        · exact B76 _ ih b1 b2 b3 b4 b5 s_victims s_backs s_dirty s_memory s_used hf
        · refine j_aload_n (q := 65) hC dX3_makeRoomFor_64 rfl rfl 0 rfl ?_
          refine j_iload_n (q := 66) hC dX3_makeRoomFor_65 rfl rfl 2 rfl ?_
          refine j_iload_n (q := 67) hC dX3_makeRoomFor_66 rfl rfl 1 rfl ?_
          refine j_callV (q := 70) hC [.int b2, .int b1] [] (fun x2 : Int32 => some (.int x2)) (fun x2 => [(q_this, .inr (2, [.int s_sets, .int s_ways, .int s_weighed, .int s_plain, .ref q_memory, .ref q_words, .ref q_used, .ref q_last, .ref q_shape, .ref q_dirty, .int s_clock, .int s_hits, .int s_victims, .int s_backs])), (q_shape, .inl (E.2.1 0, 32, .inl s_shape)), (q_used, .inl (E.2.1 0, 32, .inl s_used))]) (fun x2 => [(q_this, .inr (2, [.int s_sets, .int s_ways, .int s_weighed, .int s_plain, .ref q_memory, .ref q_words, .ref q_used, .ref q_last, .ref q_shape, .ref q_dirty, .int s_clock, .int s_hits, .int s_victims, .int s_backs])), (q_dirty, .inl (E.2.1 0, 32, .inl s_dirty)), (q_last, .inl (E.2.1 0, 32, .inl s_last)), (q_memory, .inl (E.2.1 0, 256, .inl s_memory)), (q_shape, .inl (E.2.1 0, 32, .inl s_shape)), (q_used, .inl (E.2.1 0, 32, .inl s_used)), (q_words, .inl (E.2.1 0, 256, .inl s_words))]) (fun x2 => [.int x2]) [0, 4, 5] [1, 2, 3, 6] hf (fun x2 hx => wX3_segmentsIn E q_this q_shape q_used s_sets s_ways s_weighed s_plain s_clock s_hits s_victims s_backs s_shape s_used (.ref q_memory) (.ref q_words) (.ref q_last) (.ref q_dirty) b2 b1 x2  hx) zy_X3_segmentsIn zw_634 (by unfold zRm; decide) rfl rfl (fun _ => rfl) (N := 7) (by decide) (fun _ => ⟨rfl, rfl, rfl⟩) rfl rfl rfl (Nat.le_of_ble_eq_true rfl) dX3_makeRoomFor_67 rfl rfl (fun _ => rfl) (fun x2 hf => ?_)
          refine j_iload (q := 72) hC dX3_makeRoomFor_70 rfl 4 rfl ?_
          refine j_icmp_gt (tgt := 76) (q := 75) hC dX3_makeRoomFor_72 (by decide) rfl hf (fun _ hf => ?_) (fun _ hf => ?_)
          · exact B76 _ ih b1 b2 b3 b4 b5 s_victims s_backs s_dirty s_memory s_used hf
          · have hx := Option.some.inj hf
            exact j_vret hC hR dX3_makeRoomFor_75 rfl (by rw [← hx])
  have B26 : ∀ (b1 : Int32) (b2 : Int32) (t0 : Int32) (s_victims : Int32) (s_backs : Int32) (s_dirty : (Nat → Int32)) (s_memory : (Nat → Int32)) (s_used : (Nat → Int32)), fX3_makeRoomFor_26 s_sets s_ways s_weighed s_plain s_last s_shape s_words  b1 b2 t0 s_victims s_backs s_dirty s_memory s_used = some x → J C 0 0 [(q_this, .inr (2, [.int s_sets, .int s_ways, .int s_weighed, .int s_plain, .ref q_memory, .ref q_words, .ref q_used, .ref q_last, .ref q_shape, .ref q_dirty, .int s_clock, .int s_hits, .int s_victims, .int s_backs])), (q_dirty, .inl (E.2.1 0, 32, .inl s_dirty)), (q_last, .inl (E.2.1 0, 32, .inl s_last)), (q_memory, .inl (E.2.1 0, 256, .inl s_memory)), (q_shape, .inl (E.2.1 0, 32, .inl s_shape)), (q_used, .inl (E.2.1 0, 32, .inl s_used)), (q_words, .inl (E.2.1 0, 256, .inl s_words))] [(0, .ref q_this), (1, .int b1), (2, .int b2)] 26 [.int t0] := by
    intro  b1 b2 t0 s_victims s_backs s_dirty s_memory s_used hf
    unfold fX3_makeRoomFor_26 at hf
    refine j_istore_n (q := 27) (lv' := [(3, .int t0), (0, .ref q_this), (1, .int b1), (2, .int b2)]) hC dX3_makeRoomFor_26 rfl rfl (by decide) rfl ?_
    refine j_aload_n (q := 28) hC dX3_makeRoomFor_27 rfl rfl 1 rfl ?_
    refine j_callV (q := 31) hC [] [] (fun x1 : Int32 => some (.int x1)) (fun x1 => [(q_this, .inr (2, [.int s_sets, .int s_ways, .int s_weighed, .int s_plain, .ref q_memory, .ref q_words, .ref q_used, .ref q_last, .ref q_shape, .ref q_dirty, .int s_clock, .int s_hits, .int s_victims, .int s_backs]))]) (fun x1 => [(q_this, .inr (2, [.int s_sets, .int s_ways, .int s_weighed, .int s_plain, .ref q_memory, .ref q_words, .ref q_used, .ref q_last, .ref q_shape, .ref q_dirty, .int s_clock, .int s_hits, .int s_victims, .int s_backs])), (q_dirty, .inl (E.2.1 0, 32, .inl s_dirty)), (q_last, .inl (E.2.1 0, 32, .inl s_last)), (q_memory, .inl (E.2.1 0, 256, .inl s_memory)), (q_shape, .inl (E.2.1 0, 32, .inl s_shape)), (q_used, .inl (E.2.1 0, 32, .inl s_used)), (q_words, .inl (E.2.1 0, 256, .inl s_words))]) (fun x1 => [.int x1]) [0] [1, 2, 3, 4, 5, 6] hf (fun x1 hx => wX3_segmentRoom E q_this s_sets s_ways s_weighed s_plain s_clock s_hits s_victims s_backs (.ref q_memory) (.ref q_words) (.ref q_used) (.ref q_last) (.ref q_shape) (.ref q_dirty) x1  hx) zy_X3_segmentRoom zw_632 (by unfold zRm; decide) rfl rfl (fun _ => rfl) (N := 7) (by decide) (fun _ => ⟨rfl, rfl, rfl⟩) rfl rfl rfl (Nat.le_of_ble_eq_true rfl) dX3_makeRoomFor_28 rfl rfl (fun _ => rfl) (fun x1 hf => ?_)
    refine j_getsN (q := 34) hC 1 (by decide) zn_576 dX3_makeRoomFor_31 rfl ?_
    refine j_aload_n (q := 35) hC dX3_makeRoomFor_34 rfl rfl 1 rfl ?_
    refine j_get (q := 38) hC zcl_X3 0 8 zw_176 ⟨rfl, rfl, by decide⟩ rfl rfl dX3_makeRoomFor_35 rfl ?_
    refine j_iload_n (q := 39) hC dX3_makeRoomFor_38 rfl rfl 2 rfl ?_
    refine j_iald (q := 40) hC 4 rfl dX3_makeRoomFor_39 rfl hf (fun x2 hf => ?_)
    refine j_tld (q := 41) hC 1 (by decide) dX3_makeRoomFor_40 rfl hf (fun x3 hf => ?_)
    refine j_isub (q := 42) hC dX3_makeRoomFor_41 rfl hf (fun x4 hf => ?_)
    refine j_istore (q := 44) (lv' := [(4, .int x4), (3, .int t0), (0, .ref q_this), (1, .int b1), (2, .int b2)]) hC dX3_makeRoomFor_42 rfl (by decide) rfl ?_
    refine j_iconst (q := 45) (v := 0) hC dX3_makeRoomFor_44 rfl (by decide) ?_
    refine j_istore (q := 47) (lv' := [(5, .int 0), (4, .int x4), (3, .int t0), (0, .ref q_this), (1, .int b1), (2, .int b2)]) hC dX3_makeRoomFor_45 rfl (by decide) rfl ?_
    refine j_sub (lv' := [(0, .ref q_this), (1, .int b1), (2, .int b2), (3, .int t0), (4, .int x4), (5, .int 0)]) [3, 4, 5, 2, 1, 0] rfl ?_
    exact B47  zF b1 b2 t0 x4 0 s_victims s_backs s_dirty s_memory s_used hf
  unfold fX3_makeRoomFor at hf
  refine j_sub (lv' := [(0, .ref q_this), (1, .int a1)]) [0, 1] rfl ?_
  refine j_aload_n (q := 1) hC dX3_makeRoomFor_0 rfl rfl 0 rfl ?_
  refine j_iload_n (q := 2) hC dX3_makeRoomFor_1 rfl rfl 1 rfl ?_
  refine j_callV (q := 5) hC [.int a1] [] (fun x1 : Int32 => some (.int x1)) (fun x1 => [(q_this, .inr (2, [.int s_sets, .int s_ways, .int s_weighed, .int s_plain, .ref q_memory, .ref q_words, .ref q_used, .ref q_last, .ref q_shape, .ref q_dirty, .int s_clock, .int s_hits, .int s_victims, .int s_backs]))]) (fun x1 => [(q_this, .inr (2, [.int s_sets, .int s_ways, .int s_weighed, .int s_plain, .ref q_memory, .ref q_words, .ref q_used, .ref q_last, .ref q_shape, .ref q_dirty, .int s_clock, .int s_hits, .int s_victims, .int s_backs])), (q_dirty, .inl (E.2.1 0, 32, .inl s_dirty)), (q_last, .inl (E.2.1 0, 32, .inl s_last)), (q_memory, .inl (E.2.1 0, 256, .inl s_memory)), (q_shape, .inl (E.2.1 0, 32, .inl s_shape)), (q_used, .inl (E.2.1 0, 32, .inl s_used)), (q_words, .inl (E.2.1 0, 256, .inl s_words))]) (fun x1 => [.int x1]) [0] [1, 2, 3, 4, 5, 6] hf (fun x1 hx => wX3_setOf E q_this s_sets s_ways s_weighed s_plain s_clock s_hits s_victims s_backs (.ref q_memory) (.ref q_words) (.ref q_used) (.ref q_last) (.ref q_shape) (.ref q_dirty) a1 x1  hx) zy_X3_setOf zw_597 (by unfold zRm; decide) rfl rfl (fun _ => rfl) (N := 7) (by decide) (fun _ => ⟨rfl, rfl, rfl⟩) rfl rfl rfl (Nat.le_of_ble_eq_true rfl) dX3_makeRoomFor_2 rfl rfl (fun _ => rfl) (fun x1 hf => ?_)
  refine j_istore_n (q := 6) (lv' := [(2, .int x1), (0, .ref q_this), (1, .int a1)]) hC dX3_makeRoomFor_5 rfl rfl (by decide) rfl ?_
  refine j_aload_n (q := 7) hC dX3_makeRoomFor_6 rfl rfl 1 rfl ?_
  refine j_get (q := 10) hC zcl_X3 0 3 zw_168 ⟨rfl, rfl, by decide⟩ rfl rfl dX3_makeRoomFor_7 rfl ?_
  refine j_if_eq (tgt := 20) (q := 13) hC dX3_makeRoomFor_10 (by decide) rfl hf (fun _ hf => ?_) (fun _ hf => ?_)
  · refine j_iconst (q := 21) (v := 2) hC dX3_makeRoomFor_20 rfl (by decide) ?_
    refine j_aload_n (q := 22) hC dX3_makeRoomFor_21 rfl rfl 1 rfl ?_
    refine j_get (q := 25) hC zcl_X3 0 1 zw_166 ⟨rfl, rfl, by decide⟩ rfl rfl dX3_makeRoomFor_22 rfl ?_
    refine j_imul (q := 26) hC dX3_makeRoomFor_25 rfl hf (fun x2 hf => ?_)
    refine j_sub (lv' := [(0, .ref q_this), (1, .int a1), (2, .int x1)]) [1, 2, 0] rfl ?_
    exact B26  a1 x1 x2 s_victims s_backs s_dirty s_memory s_used hf
  · refine j_aload_n (q := 14) hC dX3_makeRoomFor_13 rfl rfl 1 rfl ?_
    refine j_get (q := 17) hC zcl_X3 0 1 zw_166 ⟨rfl, rfl, by decide⟩ rfl rfl dX3_makeRoomFor_14 rfl ?_
    refine j_goto (tgt := 26) hC dX3_makeRoomFor_17 (by decide) ?_
    refine j_sub (lv' := [(0, .ref q_this), (1, .int a1), (2, .int x1)]) [1, 2, 0] rfl ?_
    exact B26  a1 x1 s_ways s_victims s_backs s_dirty s_memory s_used hf
noncomputable def fX3_use_143 (s_sets : Int32) (s_ways : Int32) (s_weighed : Int32) (s_plain : Int32)  (b3 : Int32) (b4 : Int32) (t0 : Int32) (t1 : Int32) (s_clock : Int32) (s_hits : Int32) (s_victims : Int32) (s_backs : Int32) (s_dirty : (Nat → Int32)) (s_last : (Nat → Int32)) (s_memory : (Nat → Int32)) (s_shape : (Nat → Int32)) (s_used : (Nat → Int32)) (s_words : (Nat → Int32)) : Option (Int32 × Int32 × Int32 × Int32 × Int32 × (Nat → Int32) × (Nat → Int32) × (Nat → Int32) × (Nat → Int32) × (Nat → Int32) × (Nat → Int32)) :=
  zast s_shape 32 t1 t0 fun x1 =>
    (fX3_makeRoomFor s_sets s_ways s_weighed s_plain s_victims s_backs s_dirty s_last s_memory x1 s_used s_words b3).bind fun x2 =>
    zbl b4 (some (b4, s_clock, s_hits, x2.1, x2.2.1, x2.2.2.1, s_last, x2.2.2.2.1, x1, x2.2.2.2.2, s_words))
noncomputable def fX3_use_70 (s_sets : Int32) (s_ways : Int32) (s_weighed : Int32) (s_plain : Int32)  (b1 : Int32) (b2 : Int32) (b3 : Int32) (b4 : Int32) (s_clock : Int32) (s_hits : Int32) (s_victims : Int32) (s_backs : Int32) (s_dirty : (Nat → Int32)) (s_last : (Nat → Int32)) (s_memory : (Nat → Int32)) (s_shape : (Nat → Int32)) (s_used : (Nat → Int32)) (s_words : (Nat → Int32)) : Option (Int32 × Int32 × Int32 × Int32 × Int32 × (Nat → Int32) × (Nat → Int32) × (Nat → Int32) × (Nat → Int32) × (Nat → Int32) × (Nat → Int32)) :=
  zald s_used 32 b3 fun x1 =>
    zlet (x1 + 1 : Int32) fun x2 =>
    zast s_used 32 b3 x2 fun x3 =>
    zlet (s_clock + 1 : Int32) fun x4 =>
    zast s_last 32 b3 x4 fun x5 =>
    if b2 < 0 then (zbl b4 (some (b4, x4, s_hits, s_victims, s_backs, s_dirty, x5, s_memory, s_shape, x3, s_words)))
    else (zast s_words 256 b1 b2 fun x6 =>
    zast s_dirty 32 b3 1 fun x7 =>
    if s_plain = 0 then ((fX2_shortest 256 x6 b3).bind fun x8 =>
    fX3_use_143 s_sets s_ways s_weighed s_plain  b3 b4 x8 b3 x4 s_hits s_victims s_backs x7 x5 s_memory s_shape x3 x6)
    else (fX3_use_143 s_sets s_ways s_weighed s_plain  b3 b4 7 b3 x4 s_hits s_victims s_backs x7 x5 s_memory s_shape x3 x6))
noncomputable def fX3_use_64 (s_sets : Int32) (s_ways : Int32) (s_weighed : Int32) (s_plain : Int32)  (b1 : Int32) (b2 : Int32) (b3 : Int32) (b4 : Int32) (t0 : Int32) (t1 : Int32) (s_clock : Int32) (s_hits : Int32) (s_victims : Int32) (s_backs : Int32) (s_dirty : (Nat → Int32)) (s_last : (Nat → Int32)) (s_memory : (Nat → Int32)) (s_shape : (Nat → Int32)) (s_used : (Nat → Int32)) (s_words : (Nat → Int32)) : Option (Int32 × Int32 × Int32 × Int32 × Int32 × (Nat → Int32) × (Nat → Int32) × (Nat → Int32) × (Nat → Int32) × (Nat → Int32) × (Nat → Int32)) :=
  zast s_shape 32 t1 t0 fun x1 =>
    (fX3_makeRoomFor s_sets s_ways s_weighed s_plain s_victims s_backs s_dirty s_last s_memory x1 s_used s_words b3).bind fun x2 =>
    fX3_use_70 s_sets s_ways s_weighed s_plain  b1 b2 b3 b4 s_clock s_hits x2.1 x2.2.1 x2.2.2.1 s_last x2.2.2.2.1 x1 x2.2.2.2.2 s_words
noncomputable def fX3_use_19 (s_sets : Int32) (s_ways : Int32) (s_weighed : Int32) (s_plain : Int32)  (b1 : Int32) (b2 : Int32) (b3 : Int32) (t0 : Int32) (s_clock : Int32) (s_hits : Int32) (s_victims : Int32) (s_backs : Int32) (s_dirty : (Nat → Int32)) (s_last : (Nat → Int32)) (s_memory : (Nat → Int32)) (s_shape : (Nat → Int32)) (s_used : (Nat → Int32)) (s_words : (Nat → Int32)) : Option (Int32 × Int32 × Int32 × Int32 × Int32 × (Nat → Int32) × (Nat → Int32) × (Nat → Int32) × (Nat → Int32) × (Nat → Int32) × (Nat → Int32)) :=
  if t0 = 0 then (if s_plain = 0 then ((fX2_shortest 256 s_words b3).bind fun x1 =>
    fX3_use_64 s_sets s_ways s_weighed s_plain  b1 b2 b3 t0 x1 b3 s_clock s_hits s_victims s_backs s_dirty s_last s_memory s_shape s_used s_words)
    else (fX3_use_64 s_sets s_ways s_weighed s_plain  b1 b2 b3 t0 7 b3 s_clock s_hits s_victims s_backs s_dirty s_last s_memory s_shape s_used s_words))
    else (zlet (s_hits + 1 : Int32) fun x2 =>
    fX3_use_70 s_sets s_ways s_weighed s_plain  b1 b2 b3 t0 s_clock x2 s_victims s_backs s_dirty s_last s_memory s_shape s_used s_words)
noncomputable def fX3_use (s_sets : Int32) (s_ways : Int32) (s_weighed : Int32) (s_plain : Int32) (s_clock : Int32) (s_hits : Int32) (s_victims : Int32) (s_backs : Int32) (s_dirty : (Nat → Int32)) (s_last : (Nat → Int32)) (s_memory : (Nat → Int32)) (s_shape : (Nat → Int32)) (s_used : (Nat → Int32)) (s_words : (Nat → Int32)) (a1 : Int32) (a2 : Int32) : Option (Int32 × Int32 × Int32 × Int32 × Int32 × (Nat → Int32) × (Nat → Int32) × (Nat → Int32) × (Nat → Int32) × (Nat → Int32) × (Nat → Int32)) :=
  zdiv a1 8 fun x1 =>
    zald s_used 32 x1 fun x2 =>
    if x2 ≤ 0 then (fX3_use_19 s_sets s_ways s_weighed s_plain  a1 a2 x1 0 s_clock s_hits s_victims s_backs s_dirty s_last s_memory s_shape s_used s_words)
    else (fX3_use_19 s_sets s_ways s_weighed s_plain  a1 a2 x1 1 s_clock s_hits s_victims s_backs s_dirty s_last s_memory s_shape s_used s_words)
set_option maxHeartbeats 4000000 in
set_option maxRecDepth 100000 in
theorem wX3_use (E : zE) (q_this : Nat) (q_dirty : Nat) (q_last : Nat) (q_memory : Nat) (q_shape : Nat) (q_used : Nat) (q_words : Nat) (s_sets : Int32) (s_ways : Int32) (s_weighed : Int32) (s_plain : Int32) (s_clock : Int32) (s_hits : Int32) (s_victims : Int32) (s_backs : Int32) (s_dirty : (Nat → Int32)) (s_last : (Nat → Int32)) (s_memory : (Nat → Int32)) (s_shape : (Nat → Int32)) (s_used : (Nat → Int32)) (s_words : (Nat → Int32)) (a1 : Int32) (a2 : Int32) (x : Int32 × Int32 × Int32 × Int32 × Int32 × (Nat → Int32) × (Nat → Int32) × (Nat → Int32) × (Nat → Int32) × (Nat → Int32) × (Nat → Int32)) (hf : fX3_use s_sets s_ways s_weighed s_plain s_clock s_hits s_victims s_backs s_dirty s_last s_memory s_shape s_used s_words a1 a2 = some x) (l : Launch) (sz : Nat) : zM l yX3_use cX3_use 5 (some .boolean) { frames := 4, cells := 0, slots := 0, locals := 94 } E [.ref q_this, .int a1, .int a2] [(q_this, .inr (2, [.int s_sets, .int s_ways, .int s_weighed, .int s_plain, .ref q_memory, .ref q_words, .ref q_used, .ref q_last, .ref q_shape, .ref q_dirty, .int s_clock, .int s_hits, .int s_victims, .int s_backs])), (q_dirty, .inl (E.2.1 0, 32, .inl s_dirty)), (q_last, .inl (E.2.1 0, 32, .inl s_last)), (q_memory, .inl (E.2.1 0, 256, .inl s_memory)), (q_shape, .inl (E.2.1 0, 32, .inl s_shape)), (q_used, .inl (E.2.1 0, 32, .inl s_used)), (q_words, .inl (E.2.1 0, 256, .inl s_words))] sz (some (.int x.1)) [(q_this, .inr (2, [.int s_sets, .int s_ways, .int s_weighed, .int s_plain, .ref q_memory, .ref q_words, .ref q_used, .ref q_last, .ref q_shape, .ref q_dirty, .int x.2.1, .int x.2.2.1, .int x.2.2.2.1, .int x.2.2.2.2.1])), (q_dirty, .inl (E.2.1 0, 32, .inl x.2.2.2.2.2.1)), (q_last, .inl (E.2.1 0, 32, .inl x.2.2.2.2.2.2.1)), (q_memory, .inl (E.2.1 0, 256, .inl x.2.2.2.2.2.2.2.1)), (q_shape, .inl (E.2.1 0, 32, .inl x.2.2.2.2.2.2.2.2.1)), (q_used, .inl (E.2.1 0, 32, .inl x.2.2.2.2.2.2.2.2.2.1)), (q_words, .inl (E.2.1 0, 256, .inl x.2.2.2.2.2.2.2.2.2.2))] := by
  refine zEnter (by decide) (Nat.le_of_ble_eq_true rfl) ?_
  intro C hC hR
  change zC C E cX3_use "PackedCache$Store" 5 _ at hC
  have B143 : ∀ (b3 : Int32) (b4 : Int32) (t0 : Int32) (t1 : Int32) (s_clock : Int32) (s_hits : Int32) (s_victims : Int32) (s_backs : Int32) (s_dirty : (Nat → Int32)) (s_last : (Nat → Int32)) (s_memory : (Nat → Int32)) (s_shape : (Nat → Int32)) (s_used : (Nat → Int32)) (s_words : (Nat → Int32)), fX3_use_143 s_sets s_ways s_weighed s_plain  b3 b4 t0 t1 s_clock s_hits s_victims s_backs s_dirty s_last s_memory s_shape s_used s_words = some x → J C 0 0 [(q_this, .inr (2, [.int s_sets, .int s_ways, .int s_weighed, .int s_plain, .ref q_memory, .ref q_words, .ref q_used, .ref q_last, .ref q_shape, .ref q_dirty, .int s_clock, .int s_hits, .int s_victims, .int s_backs])), (q_dirty, .inl (E.2.1 0, 32, .inl s_dirty)), (q_last, .inl (E.2.1 0, 32, .inl s_last)), (q_memory, .inl (E.2.1 0, 256, .inl s_memory)), (q_shape, .inl (E.2.1 0, 32, .inl s_shape)), (q_used, .inl (E.2.1 0, 32, .inl s_used)), (q_words, .inl (E.2.1 0, 256, .inl s_words))] [(0, .ref q_this), (3, .int b3), (4, .int b4)] 143 [.int t0, .int t1, .ref q_shape] := by
    intro  b3 b4 t0 t1 s_clock s_hits s_victims s_backs s_dirty s_last s_memory s_shape s_used s_words hf
    unfold fX3_use_143 at hf
    refine j_iast (q := 144) hC (fun x1 => [(q_this, .inr (2, [.int s_sets, .int s_ways, .int s_weighed, .int s_plain, .ref q_memory, .ref q_words, .ref q_used, .ref q_last, .ref q_shape, .ref q_dirty, .int s_clock, .int s_hits, .int s_victims, .int s_backs])), (q_dirty, .inl (E.2.1 0, 32, .inl s_dirty)), (q_last, .inl (E.2.1 0, 32, .inl s_last)), (q_memory, .inl (E.2.1 0, 256, .inl s_memory)), (q_shape, .inl (E.2.1 0, 32, .inl x1)), (q_used, .inl (E.2.1 0, 32, .inl s_used)), (q_words, .inl (E.2.1 0, 256, .inl s_words))]) 4 rfl (fun _ => rfl) dX3_use_143 rfl hf (fun x1 hf => ?_)
    refine j_aload_n (q := 145) hC dX3_use_144 rfl rfl 0 rfl ?_
    refine j_iload_n (q := 146) hC dX3_use_145 rfl rfl 1 rfl ?_
    refine j_callV (q := 149) hC [.int b3] [] (fun x2 : Int32 × Int32 × (Nat → Int32) × (Nat → Int32) × (Nat → Int32) => none) (fun x2 => [(q_this, .inr (2, [.int s_sets, .int s_ways, .int s_weighed, .int s_plain, .ref q_memory, .ref q_words, .ref q_used, .ref q_last, .ref q_shape, .ref q_dirty, .int s_clock, .int s_hits, .int x2.1, .int x2.2.1])), (q_dirty, .inl (E.2.1 0, 32, .inl x2.2.2.1)), (q_last, .inl (E.2.1 0, 32, .inl s_last)), (q_memory, .inl (E.2.1 0, 256, .inl x2.2.2.2.1)), (q_shape, .inl (E.2.1 0, 32, .inl x1)), (q_used, .inl (E.2.1 0, 32, .inl x2.2.2.2.2)), (q_words, .inl (E.2.1 0, 256, .inl s_words))]) (fun x2 => [(q_this, .inr (2, [.int s_sets, .int s_ways, .int s_weighed, .int s_plain, .ref q_memory, .ref q_words, .ref q_used, .ref q_last, .ref q_shape, .ref q_dirty, .int s_clock, .int s_hits, .int x2.1, .int x2.2.1])), (q_dirty, .inl (E.2.1 0, 32, .inl x2.2.2.1)), (q_last, .inl (E.2.1 0, 32, .inl s_last)), (q_memory, .inl (E.2.1 0, 256, .inl x2.2.2.2.1)), (q_shape, .inl (E.2.1 0, 32, .inl x1)), (q_used, .inl (E.2.1 0, 32, .inl x2.2.2.2.2)), (q_words, .inl (E.2.1 0, 256, .inl s_words))]) (fun x2 => []) [0, 1, 2, 3, 4, 5, 6] [] hf (fun x2 hx => wX3_makeRoomFor E q_this q_dirty q_last q_memory q_shape q_used q_words s_sets s_ways s_weighed s_plain s_clock s_hits s_victims s_backs s_dirty s_last s_memory x1 s_used s_words b3 x2  hx) zy_X3_makeRoomFor zw_628 (by unfold zRm; decide) rfl rfl (fun _ => rfl) (N := 7) (by decide) (fun _ => ⟨rfl, rfl, rfl⟩) rfl rfl rfl (Nat.le_of_ble_eq_true rfl) dX3_use_146 rfl rfl (fun _ => rfl) (fun x2 hf => ?_)
    refine j_iload (q := 151) hC dX3_use_149 rfl 2 rfl ?_
    obtain ⟨hz, hf⟩ := zbl_s hf
    have hx := Option.some.inj hf
    exact j_zret hC hR (zbl_n hz) dX3_use_151 (by rw [← hx]) (by rw [← hx])
  have B70 : ∀ (b1 : Int32) (b2 : Int32) (b3 : Int32) (b4 : Int32) (s_clock : Int32) (s_hits : Int32) (s_victims : Int32) (s_backs : Int32) (s_dirty : (Nat → Int32)) (s_last : (Nat → Int32)) (s_memory : (Nat → Int32)) (s_shape : (Nat → Int32)) (s_used : (Nat → Int32)) (s_words : (Nat → Int32)), fX3_use_70 s_sets s_ways s_weighed s_plain  b1 b2 b3 b4 s_clock s_hits s_victims s_backs s_dirty s_last s_memory s_shape s_used s_words = some x → J C 0 0 [(q_this, .inr (2, [.int s_sets, .int s_ways, .int s_weighed, .int s_plain, .ref q_memory, .ref q_words, .ref q_used, .ref q_last, .ref q_shape, .ref q_dirty, .int s_clock, .int s_hits, .int s_victims, .int s_backs])), (q_dirty, .inl (E.2.1 0, 32, .inl s_dirty)), (q_last, .inl (E.2.1 0, 32, .inl s_last)), (q_memory, .inl (E.2.1 0, 256, .inl s_memory)), (q_shape, .inl (E.2.1 0, 32, .inl s_shape)), (q_used, .inl (E.2.1 0, 32, .inl s_used)), (q_words, .inl (E.2.1 0, 256, .inl s_words))] [(0, .ref q_this), (1, .int b1), (2, .int b2), (3, .int b3), (4, .int b4)] 70 [] := by
    intro  b1 b2 b3 b4 s_clock s_hits s_victims s_backs s_dirty s_last s_memory s_shape s_used s_words hf
    unfold fX3_use_70 at hf
    refine j_aload_n (q := 71) hC dX3_use_70 rfl rfl 0 rfl ?_
    refine j_get (q := 74) hC zcl_X3 0 6 zw_173 ⟨rfl, rfl, by decide⟩ rfl rfl dX3_use_71 rfl ?_
    refine j_iload_n (q := 75) hC dX3_use_74 rfl rfl 3 rfl ?_
    refine j_dup2 (q := 76) hC dX3_use_75 rfl rfl rfl ?_
    refine j_iald (q := 77) hC 5 rfl dX3_use_76 rfl hf (fun x1 hf => ?_)
    refine j_iconst (q := 78) (v := 1) hC dX3_use_77 rfl (by decide) ?_
    refine j_iadd (q := 79) hC dX3_use_78 rfl hf (fun x2 hf => ?_)
    refine j_iast (q := 80) hC (fun x3 => [(q_this, .inr (2, [.int s_sets, .int s_ways, .int s_weighed, .int s_plain, .ref q_memory, .ref q_words, .ref q_used, .ref q_last, .ref q_shape, .ref q_dirty, .int s_clock, .int s_hits, .int s_victims, .int s_backs])), (q_dirty, .inl (E.2.1 0, 32, .inl s_dirty)), (q_last, .inl (E.2.1 0, 32, .inl s_last)), (q_memory, .inl (E.2.1 0, 256, .inl s_memory)), (q_shape, .inl (E.2.1 0, 32, .inl s_shape)), (q_used, .inl (E.2.1 0, 32, .inl x3)), (q_words, .inl (E.2.1 0, 256, .inl s_words))]) 5 rfl (fun _ => rfl) dX3_use_79 rfl hf (fun x3 hf => ?_)
    refine j_aload_n (q := 81) hC dX3_use_80 rfl rfl 0 rfl ?_
    refine j_dup (q := 82) hC dX3_use_81 rfl rfl ?_
    refine j_get (q := 85) hC zcl_X3 0 10 zw_180 ⟨rfl, rfl, by decide⟩ rfl rfl dX3_use_82 rfl ?_
    refine j_iconst (q := 86) (v := 1) hC dX3_use_85 rfl (by decide) ?_
    refine j_iadd (q := 87) hC dX3_use_86 rfl hf (fun x4 hf => ?_)
    refine j_put (q := 90) (host := "") hC zcl_X3 0 10 (ws' := [(q_this, .inr (2, [.int s_sets, .int s_ways, .int s_weighed, .int s_plain, .ref q_memory, .ref q_words, .ref q_used, .ref q_last, .ref q_shape, .ref q_dirty, .int x4, .int s_hits, .int s_victims, .int s_backs])), (q_dirty, .inl (E.2.1 0, 32, .inl s_dirty)), (q_last, .inl (E.2.1 0, 32, .inl s_last)), (q_memory, .inl (E.2.1 0, 256, .inl s_memory)), (q_shape, .inl (E.2.1 0, 32, .inl s_shape)), (q_used, .inl (E.2.1 0, 32, .inl x3)), (q_words, .inl (E.2.1 0, 256, .inl s_words))]) zw_180 ⟨rfl, rfl, by decide, rfl⟩ rfl rfl rfl (Nat.le_of_ble_eq_true rfl) rfl dX3_use_87 rfl ?_
    refine j_aload_n (q := 91) hC dX3_use_90 rfl rfl 0 rfl ?_
    refine j_get (q := 94) hC zcl_X3 0 7 zw_175 ⟨rfl, rfl, by decide⟩ rfl rfl dX3_use_91 rfl ?_
    refine j_iload_n (q := 95) hC dX3_use_94 rfl rfl 3 rfl ?_
    refine j_aload_n (q := 96) hC dX3_use_95 rfl rfl 0 rfl ?_
    refine j_get (q := 99) hC zcl_X3 0 10 zw_180 ⟨rfl, rfl, by decide⟩ rfl rfl dX3_use_96 rfl ?_
    refine j_iast (q := 100) hC (fun x5 => [(q_this, .inr (2, [.int s_sets, .int s_ways, .int s_weighed, .int s_plain, .ref q_memory, .ref q_words, .ref q_used, .ref q_last, .ref q_shape, .ref q_dirty, .int x4, .int s_hits, .int s_victims, .int s_backs])), (q_dirty, .inl (E.2.1 0, 32, .inl s_dirty)), (q_last, .inl (E.2.1 0, 32, .inl x5)), (q_memory, .inl (E.2.1 0, 256, .inl s_memory)), (q_shape, .inl (E.2.1 0, 32, .inl s_shape)), (q_used, .inl (E.2.1 0, 32, .inl x3)), (q_words, .inl (E.2.1 0, 256, .inl s_words))]) 2 rfl (fun _ => rfl) dX3_use_99 rfl hf (fun x5 hf => ?_)
    refine j_iload_n (q := 101) hC dX3_use_100 rfl rfl 2 rfl ?_
    refine j_if_lt (tgt := 149) (q := 104) hC dX3_use_101 (by decide) rfl hf (fun _ hf => ?_) (fun _ hf => ?_)
    · refine j_iload (q := 151) hC dX3_use_149 rfl 4 rfl ?_
      obtain ⟨hz, hf⟩ := zbl_s hf
      have hx := Option.some.inj hf
      exact j_zret hC hR (zbl_n hz) dX3_use_151 (by rw [← hx]) (by rw [← hx])
    · refine j_aload_n (q := 105) hC dX3_use_104 rfl rfl 0 rfl ?_
      refine j_get (q := 108) hC zcl_X3 0 5 zw_171 ⟨rfl, rfl, by decide⟩ rfl rfl dX3_use_105 rfl ?_
      refine j_iload_n (q := 109) hC dX3_use_108 rfl rfl 1 rfl ?_
      refine j_iload_n (q := 110) hC dX3_use_109 rfl rfl 2 rfl ?_
      refine j_iast (q := 111) hC (fun x6 => [(q_this, .inr (2, [.int s_sets, .int s_ways, .int s_weighed, .int s_plain, .ref q_memory, .ref q_words, .ref q_used, .ref q_last, .ref q_shape, .ref q_dirty, .int x4, .int s_hits, .int s_victims, .int s_backs])), (q_dirty, .inl (E.2.1 0, 32, .inl s_dirty)), (q_last, .inl (E.2.1 0, 32, .inl x5)), (q_memory, .inl (E.2.1 0, 256, .inl s_memory)), (q_shape, .inl (E.2.1 0, 32, .inl s_shape)), (q_used, .inl (E.2.1 0, 32, .inl x3)), (q_words, .inl (E.2.1 0, 256, .inl x6))]) 6 rfl (fun _ => rfl) dX3_use_110 rfl hf (fun x6 hf => ?_)
      refine j_aload_n (q := 112) hC dX3_use_111 rfl rfl 0 rfl ?_
      refine j_get (q := 115) hC zcl_X3 0 9 zw_178 ⟨rfl, rfl, by decide⟩ rfl rfl dX3_use_112 rfl ?_
      refine j_iload_n (q := 116) hC dX3_use_115 rfl rfl 3 rfl ?_
      refine j_iconst (q := 117) (v := 1) hC dX3_use_116 rfl (by decide) ?_
      refine j_iast (q := 118) hC (fun x7 => [(q_this, .inr (2, [.int s_sets, .int s_ways, .int s_weighed, .int s_plain, .ref q_memory, .ref q_words, .ref q_used, .ref q_last, .ref q_shape, .ref q_dirty, .int x4, .int s_hits, .int s_victims, .int s_backs])), (q_dirty, .inl (E.2.1 0, 32, .inl x7)), (q_last, .inl (E.2.1 0, 32, .inl x5)), (q_memory, .inl (E.2.1 0, 256, .inl s_memory)), (q_shape, .inl (E.2.1 0, 32, .inl s_shape)), (q_used, .inl (E.2.1 0, 32, .inl x3)), (q_words, .inl (E.2.1 0, 256, .inl x6))]) 1 rfl (fun _ => rfl) dX3_use_117 rfl hf (fun x7 hf => ?_)
      refine j_aload_n (q := 119) hC dX3_use_118 rfl rfl 0 rfl ?_
      refine j_get (q := 122) hC zcl_X3 0 8 zw_176 ⟨rfl, rfl, by decide⟩ rfl rfl dX3_use_119 rfl ?_
      refine j_iload_n (q := 123) hC dX3_use_122 rfl rfl 3 rfl ?_
      refine j_aload_n (q := 124) hC dX3_use_123 rfl rfl 0 rfl ?_
      refine j_get (q := 127) hC zcl_X3 0 3 zw_168 ⟨rfl, rfl, by decide⟩ rfl rfl dX3_use_124 rfl ?_
      refine j_if_eq (tgt := 135) (q := 130) hC dX3_use_127 (by decide) rfl hf (fun _ hf => ?_) (fun _ hf => ?_)
      · refine j_aload_n (q := 136) hC dX3_use_135 rfl rfl 0 rfl ?_
        refine j_get (q := 139) hC zcl_X3 0 5 zw_171 ⟨rfl, rfl, by decide⟩ rfl rfl dX3_use_136 rfl ?_
        refine j_iload_n (q := 140) hC dX3_use_139 rfl rfl 3 rfl ?_
        refine j_callS (q := 143) hC [.ref q_words, .int b3] [.int b3, .ref q_shape] (fun x8 : Int32 => some (.int x8)) (fun x8 => [(q_words, .inl (E.2.1 0, 256, .inl x6))]) (fun x8 => [(q_this, .inr (2, [.int s_sets, .int s_ways, .int s_weighed, .int s_plain, .ref q_memory, .ref q_words, .ref q_used, .ref q_last, .ref q_shape, .ref q_dirty, .int x4, .int s_hits, .int s_victims, .int s_backs])), (q_dirty, .inl (E.2.1 0, 32, .inl x7)), (q_last, .inl (E.2.1 0, 32, .inl x5)), (q_memory, .inl (E.2.1 0, 256, .inl s_memory)), (q_shape, .inl (E.2.1 0, 32, .inl s_shape)), (q_used, .inl (E.2.1 0, 32, .inl x3)), (q_words, .inl (E.2.1 0, 256, .inl x6))]) (fun x8 => [.int x8, .int b3, .ref q_shape]) [6] [0, 1, 2, 3, 4, 5] hf (fun x8 hx => wX2_shortest E 256 q_words x6 b3 x8  hx) zy_X2_shortest zw_627 (by unfold zRm; decide) rfl rfl (fun _ => rfl) (N := 7) (by decide) (fun _ => ⟨rfl, rfl, rfl⟩) rfl (Nat.le_of_ble_eq_true rfl) dX3_use_140 rfl rfl (fun _ => rfl) (fun x8 hf => ?_)
        refine j_sub (lv' := [(0, .ref q_this), (3, .int b3), (4, .int b4)]) [0, 3, 4] rfl ?_
        exact B143  b3 b4 x8 b3 x4 s_hits s_victims s_backs x7 x5 s_memory s_shape x3 x6 hf
      · refine j_bipush (q := 132) (v := 7) hC dX3_use_130 rfl (by decide) ?_
        refine j_goto (tgt := 143) hC dX3_use_132 (by decide) ?_
        refine j_sub (lv' := [(0, .ref q_this), (3, .int b3), (4, .int b4)]) [0, 3, 4] rfl ?_
        exact B143  b3 b4 7 b3 x4 s_hits s_victims s_backs x7 x5 s_memory s_shape x3 x6 hf
  have B64 : ∀ (b1 : Int32) (b2 : Int32) (b3 : Int32) (b4 : Int32) (t0 : Int32) (t1 : Int32) (s_clock : Int32) (s_hits : Int32) (s_victims : Int32) (s_backs : Int32) (s_dirty : (Nat → Int32)) (s_last : (Nat → Int32)) (s_memory : (Nat → Int32)) (s_shape : (Nat → Int32)) (s_used : (Nat → Int32)) (s_words : (Nat → Int32)), fX3_use_64 s_sets s_ways s_weighed s_plain  b1 b2 b3 b4 t0 t1 s_clock s_hits s_victims s_backs s_dirty s_last s_memory s_shape s_used s_words = some x → J C 0 0 [(q_this, .inr (2, [.int s_sets, .int s_ways, .int s_weighed, .int s_plain, .ref q_memory, .ref q_words, .ref q_used, .ref q_last, .ref q_shape, .ref q_dirty, .int s_clock, .int s_hits, .int s_victims, .int s_backs])), (q_dirty, .inl (E.2.1 0, 32, .inl s_dirty)), (q_last, .inl (E.2.1 0, 32, .inl s_last)), (q_memory, .inl (E.2.1 0, 256, .inl s_memory)), (q_shape, .inl (E.2.1 0, 32, .inl s_shape)), (q_used, .inl (E.2.1 0, 32, .inl s_used)), (q_words, .inl (E.2.1 0, 256, .inl s_words))] [(0, .ref q_this), (1, .int b1), (2, .int b2), (3, .int b3), (4, .int b4)] 64 [.int t0, .int t1, .ref q_shape] := by
    intro  b1 b2 b3 b4 t0 t1 s_clock s_hits s_victims s_backs s_dirty s_last s_memory s_shape s_used s_words hf
    unfold fX3_use_64 at hf
    refine j_iast (q := 65) hC (fun x1 => [(q_this, .inr (2, [.int s_sets, .int s_ways, .int s_weighed, .int s_plain, .ref q_memory, .ref q_words, .ref q_used, .ref q_last, .ref q_shape, .ref q_dirty, .int s_clock, .int s_hits, .int s_victims, .int s_backs])), (q_dirty, .inl (E.2.1 0, 32, .inl s_dirty)), (q_last, .inl (E.2.1 0, 32, .inl s_last)), (q_memory, .inl (E.2.1 0, 256, .inl s_memory)), (q_shape, .inl (E.2.1 0, 32, .inl x1)), (q_used, .inl (E.2.1 0, 32, .inl s_used)), (q_words, .inl (E.2.1 0, 256, .inl s_words))]) 4 rfl (fun _ => rfl) dX3_use_64 rfl hf (fun x1 hf => ?_)
    refine j_aload_n (q := 66) hC dX3_use_65 rfl rfl 0 rfl ?_
    refine j_iload_n (q := 67) hC dX3_use_66 rfl rfl 3 rfl ?_
    refine j_callV (q := 70) hC [.int b3] [] (fun x2 : Int32 × Int32 × (Nat → Int32) × (Nat → Int32) × (Nat → Int32) => none) (fun x2 => [(q_this, .inr (2, [.int s_sets, .int s_ways, .int s_weighed, .int s_plain, .ref q_memory, .ref q_words, .ref q_used, .ref q_last, .ref q_shape, .ref q_dirty, .int s_clock, .int s_hits, .int x2.1, .int x2.2.1])), (q_dirty, .inl (E.2.1 0, 32, .inl x2.2.2.1)), (q_last, .inl (E.2.1 0, 32, .inl s_last)), (q_memory, .inl (E.2.1 0, 256, .inl x2.2.2.2.1)), (q_shape, .inl (E.2.1 0, 32, .inl x1)), (q_used, .inl (E.2.1 0, 32, .inl x2.2.2.2.2)), (q_words, .inl (E.2.1 0, 256, .inl s_words))]) (fun x2 => [(q_this, .inr (2, [.int s_sets, .int s_ways, .int s_weighed, .int s_plain, .ref q_memory, .ref q_words, .ref q_used, .ref q_last, .ref q_shape, .ref q_dirty, .int s_clock, .int s_hits, .int x2.1, .int x2.2.1])), (q_dirty, .inl (E.2.1 0, 32, .inl x2.2.2.1)), (q_last, .inl (E.2.1 0, 32, .inl s_last)), (q_memory, .inl (E.2.1 0, 256, .inl x2.2.2.2.1)), (q_shape, .inl (E.2.1 0, 32, .inl x1)), (q_used, .inl (E.2.1 0, 32, .inl x2.2.2.2.2)), (q_words, .inl (E.2.1 0, 256, .inl s_words))]) (fun x2 => []) [0, 1, 2, 3, 4, 5, 6] [] hf (fun x2 hx => wX3_makeRoomFor E q_this q_dirty q_last q_memory q_shape q_used q_words s_sets s_ways s_weighed s_plain s_clock s_hits s_victims s_backs s_dirty s_last s_memory x1 s_used s_words b3 x2  hx) zy_X3_makeRoomFor zw_628 (by unfold zRm; decide) rfl rfl (fun _ => rfl) (N := 7) (by decide) (fun _ => ⟨rfl, rfl, rfl⟩) rfl rfl rfl (Nat.le_of_ble_eq_true rfl) dX3_use_67 rfl rfl (fun _ => rfl) (fun x2 hf => ?_)
    exact B70  b1 b2 b3 b4 s_clock s_hits x2.1 x2.2.1 x2.2.2.1 s_last x2.2.2.2.1 x1 x2.2.2.2.2 s_words hf
  have B19 : ∀ (b1 : Int32) (b2 : Int32) (b3 : Int32) (t0 : Int32) (s_clock : Int32) (s_hits : Int32) (s_victims : Int32) (s_backs : Int32) (s_dirty : (Nat → Int32)) (s_last : (Nat → Int32)) (s_memory : (Nat → Int32)) (s_shape : (Nat → Int32)) (s_used : (Nat → Int32)) (s_words : (Nat → Int32)), fX3_use_19 s_sets s_ways s_weighed s_plain  b1 b2 b3 t0 s_clock s_hits s_victims s_backs s_dirty s_last s_memory s_shape s_used s_words = some x → J C 0 0 [(q_this, .inr (2, [.int s_sets, .int s_ways, .int s_weighed, .int s_plain, .ref q_memory, .ref q_words, .ref q_used, .ref q_last, .ref q_shape, .ref q_dirty, .int s_clock, .int s_hits, .int s_victims, .int s_backs])), (q_dirty, .inl (E.2.1 0, 32, .inl s_dirty)), (q_last, .inl (E.2.1 0, 32, .inl s_last)), (q_memory, .inl (E.2.1 0, 256, .inl s_memory)), (q_shape, .inl (E.2.1 0, 32, .inl s_shape)), (q_used, .inl (E.2.1 0, 32, .inl s_used)), (q_words, .inl (E.2.1 0, 256, .inl s_words))] [(0, .ref q_this), (1, .int b1), (2, .int b2), (3, .int b3)] 19 [.int t0] := by
    intro  b1 b2 b3 t0 s_clock s_hits s_victims s_backs s_dirty s_last s_memory s_shape s_used s_words hf
    unfold fX3_use_19 at hf
    refine j_istore (q := 21) (lv' := [(4, .int t0), (0, .ref q_this), (1, .int b1), (2, .int b2), (3, .int b3)]) hC dX3_use_19 rfl (by decide) rfl ?_
    refine j_iload (q := 23) hC dX3_use_21 rfl 0 rfl ?_
    refine j_if_eq (tgt := 39) (q := 26) hC dX3_use_23 (by decide) rfl hf (fun _ hf => ?_) (fun _ hf => ?_)
    · refine j_aload_n (q := 40) hC dX3_use_39 rfl rfl 1 rfl ?_
      refine j_get (q := 43) hC zcl_X3 0 8 zw_176 ⟨rfl, rfl, by decide⟩ rfl rfl dX3_use_40 rfl ?_
      refine j_iload_n (q := 44) hC dX3_use_43 rfl rfl 4 rfl ?_
      refine j_aload_n (q := 45) hC dX3_use_44 rfl rfl 1 rfl ?_
      refine j_get (q := 48) hC zcl_X3 0 3 zw_168 ⟨rfl, rfl, by decide⟩ rfl rfl dX3_use_45 rfl ?_
      refine j_if_eq (tgt := 56) (q := 51) hC dX3_use_48 (by decide) rfl hf (fun _ hf => ?_) (fun _ hf => ?_)
      · refine j_aload_n (q := 57) hC dX3_use_56 rfl rfl 1 rfl ?_
        refine j_get (q := 60) hC zcl_X3 0 5 zw_171 ⟨rfl, rfl, by decide⟩ rfl rfl dX3_use_57 rfl ?_
        refine j_iload_n (q := 61) hC dX3_use_60 rfl rfl 4 rfl ?_
        refine j_callS (q := 64) hC [.ref q_words, .int b3] [.int b3, .ref q_shape] (fun x1 : Int32 => some (.int x1)) (fun x1 => [(q_words, .inl (E.2.1 0, 256, .inl s_words))]) (fun x1 => [(q_this, .inr (2, [.int s_sets, .int s_ways, .int s_weighed, .int s_plain, .ref q_memory, .ref q_words, .ref q_used, .ref q_last, .ref q_shape, .ref q_dirty, .int s_clock, .int s_hits, .int s_victims, .int s_backs])), (q_dirty, .inl (E.2.1 0, 32, .inl s_dirty)), (q_last, .inl (E.2.1 0, 32, .inl s_last)), (q_memory, .inl (E.2.1 0, 256, .inl s_memory)), (q_shape, .inl (E.2.1 0, 32, .inl s_shape)), (q_used, .inl (E.2.1 0, 32, .inl s_used)), (q_words, .inl (E.2.1 0, 256, .inl s_words))]) (fun x1 => [.int x1, .int b3, .ref q_shape]) [6] [0, 1, 2, 3, 4, 5] hf (fun x1 hx => wX2_shortest E 256 q_words s_words b3 x1  hx) zy_X2_shortest zw_627 (by unfold zRm; decide) rfl rfl (fun _ => rfl) (N := 7) (by decide) (fun _ => ⟨rfl, rfl, rfl⟩) rfl (Nat.le_of_ble_eq_true rfl) dX3_use_61 rfl rfl (fun _ => rfl) (fun x1 hf => ?_)
        refine j_sub (lv' := [(0, .ref q_this), (1, .int b1), (2, .int b2), (3, .int b3), (4, .int t0)]) [1, 2, 3, 4, 0] rfl ?_
        exact B64  b1 b2 b3 t0 x1 b3 s_clock s_hits s_victims s_backs s_dirty s_last s_memory s_shape s_used s_words hf
      · refine j_bipush (q := 53) (v := 7) hC dX3_use_51 rfl (by decide) ?_
        refine j_goto (tgt := 64) hC dX3_use_53 (by decide) ?_
        refine j_sub (lv' := [(0, .ref q_this), (1, .int b1), (2, .int b2), (3, .int b3), (4, .int t0)]) [1, 2, 3, 4, 0] rfl ?_
        exact B64  b1 b2 b3 t0 7 b3 s_clock s_hits s_victims s_backs s_dirty s_last s_memory s_shape s_used s_words hf
    · refine j_aload_n (q := 27) hC dX3_use_26 rfl rfl 1 rfl ?_
      refine j_dup (q := 28) hC dX3_use_27 rfl rfl ?_
      refine j_get (q := 31) hC zcl_X3 0 11 zw_181 ⟨rfl, rfl, by decide⟩ rfl rfl dX3_use_28 rfl ?_
      refine j_iconst (q := 32) (v := 1) hC dX3_use_31 rfl (by decide) ?_
      refine j_iadd (q := 33) hC dX3_use_32 rfl hf (fun x2 hf => ?_)
      refine j_put (q := 36) (host := "") hC zcl_X3 0 11 (ws' := [(q_this, .inr (2, [.int s_sets, .int s_ways, .int s_weighed, .int s_plain, .ref q_memory, .ref q_words, .ref q_used, .ref q_last, .ref q_shape, .ref q_dirty, .int s_clock, .int x2, .int s_victims, .int s_backs])), (q_dirty, .inl (E.2.1 0, 32, .inl s_dirty)), (q_last, .inl (E.2.1 0, 32, .inl s_last)), (q_memory, .inl (E.2.1 0, 256, .inl s_memory)), (q_shape, .inl (E.2.1 0, 32, .inl s_shape)), (q_used, .inl (E.2.1 0, 32, .inl s_used)), (q_words, .inl (E.2.1 0, 256, .inl s_words))]) zw_181 ⟨rfl, rfl, by decide, rfl⟩ rfl rfl rfl (Nat.le_of_ble_eq_true rfl) rfl dX3_use_33 rfl ?_
      refine j_goto (tgt := 70) hC dX3_use_36 (by decide) ?_
      refine j_sub (lv' := [(0, .ref q_this), (1, .int b1), (2, .int b2), (3, .int b3), (4, .int t0)]) [1, 2, 3, 4, 0] rfl ?_
      exact B70  b1 b2 b3 t0 s_clock x2 s_victims s_backs s_dirty s_last s_memory s_shape s_used s_words hf
  unfold fX3_use at hf
  refine j_sub (lv' := [(0, .ref q_this), (1, .int a1), (2, .int a2)]) [0, 1, 2] rfl ?_
  refine j_iload_n (q := 1) hC dX3_use_0 rfl rfl 1 rfl ?_
  refine j_bipush (q := 3) (v := 8) hC dX3_use_1 rfl (by decide) ?_
  refine j_idiv (q := 4) hC dX3_use_3 rfl hf (fun x1 hf => ?_)
  refine j_istore_n (q := 5) (lv' := [(3, .int x1), (0, .ref q_this), (1, .int a1), (2, .int a2)]) hC dX3_use_4 rfl rfl (by decide) rfl ?_
  refine j_aload_n (q := 6) hC dX3_use_5 rfl rfl 1 rfl ?_
  refine j_get (q := 9) hC zcl_X3 0 6 zw_173 ⟨rfl, rfl, by decide⟩ rfl rfl dX3_use_6 rfl ?_
  refine j_iload_n (q := 10) hC dX3_use_9 rfl rfl 0 rfl ?_
  refine j_iald (q := 11) hC 5 rfl dX3_use_10 rfl hf (fun x2 hf => ?_)
  refine j_if_le (tgt := 18) (q := 14) hC dX3_use_11 (by decide) rfl hf (fun _ hf => ?_) (fun _ hf => ?_)
  · refine j_iconst (q := 19) (v := 0) hC dX3_use_18 rfl (by decide) ?_
    refine j_sub (lv' := [(0, .ref q_this), (1, .int a1), (2, .int a2), (3, .int x1)]) [1, 2, 3, 0] rfl ?_
    exact B19  a1 a2 x1 0 s_clock s_hits s_victims s_backs s_dirty s_last s_memory s_shape s_used s_words hf
  · refine j_iconst (q := 15) (v := 1) hC dX3_use_14 rfl (by decide) ?_
    refine j_goto (tgt := 19) hC dX3_use_15 (by decide) ?_
    refine j_sub (lv' := [(0, .ref q_this), (1, .int a1), (2, .int a2), (3, .int x1)]) [1, 2, 3, 0] rfl ?_
    exact B19  a1 a2 x1 1 s_clock s_hits s_victims s_backs s_dirty s_last s_memory s_shape s_used s_words hf
