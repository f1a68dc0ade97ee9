noncomputable def fX2_isFull_2 (n_a0 : Nat) (s_a0 : (Nat → Int32))  : Nat → Int32 → Int32 → Int32 → Option (Int32)
  | 0, _, _, _ => none
  | m + 1, b1, b2, b3 =>
    if 8 ≤ b3 then (some 1)
    else (zlet (b1 * 8 : Int32) fun x1 =>
    zlet (x1 + b3 : Int32) fun x2 =>
    zald s_a0 n_a0 x2 fun x3 =>
    if x3 = b2 then (zlet (b3 + 1) fun x4 =>
    fX2_isFull_2 n_a0 s_a0  m b1 b2 x4)
    else (some 0))
noncomputable def fX2_isFull (n_a0 : Nat) (s_a0 : (Nat → Int32)) (a1 : Int32) (a2 : Int32) : Option (Int32) :=
  fX2_isFull_2 n_a0 s_a0  zF a1 a2 0
set_option maxHeartbeats 4000000 in
set_option maxRecDepth 100000 in
theorem wX2_isFull (E : zE) (n_a0 : Nat) (q_a0 : Nat) (s_a0 : (Nat → Int32)) (a1 : Int32) (a2 : Int32) (x : Int32) (hf : fX2_isFull n_a0 s_a0 a1 a2 = some x) (l : Launch) (sz : Nat) : zM l yX2_isFull cX2_isFull 4 (some .boolean) { frames := 0, cells := 0, slots := 0, locals := 0 } E [.ref q_a0, .int a1, .int a2] [(q_a0, .inl (E.2.1 0, n_a0, .inl s_a0))] sz (some (.int x)) [(q_a0, .inl (E.2.1 0, n_a0, .inl s_a0))] := by
  refine zEnter (by decide) (Nat.le_of_ble_eq_true rfl) ?_
  intro C hC hR
  change zC C E cX2_isFull "PackedCache$Shape" 4 _ at hC
  have B2 : ∀ (N : Nat), ∀ (b1 : Int32) (b2 : Int32) (b3 : Int32), fX2_isFull_2 n_a0 s_a0  N b1 b2 b3 = some x → J C 0 0 [(q_a0, .inl (E.2.1 0, n_a0, .inl s_a0))] [(0, .ref q_a0), (1, .int b1), (2, .int b2), (3, .int b3)] 2 [] := by
    intro  N
    induction N with
    | zero =>
      intro b1 b2 b3 hf
      rw [fX2_isFull_2] at hf
      cases hf
    | succ m ih =>
      intro b1 b2 b3 hf
      rw [fX2_isFull_2] at hf
      refine j_iload_n (q := 3) hC dX2_isFull_2 rfl rfl 3 rfl ?_
      refine j_bipush (q := 5) (v := 8) hC dX2_isFull_3 rfl (by decide) ?_
      refine j_icmp_ge (tgt := 28) (q := 8) hC dX2_isFull_5 (by decide) rfl hf (fun _ hf => ?_) (fun _ hf => ?_)
      · refine j_iconst (q := 29) (v := 1) hC dX2_isFull_28 rfl (by decide) ?_
        have hx := Option.some.inj hf
        exact j_zret hC hR rfl dX2_isFull_29 (by rw [← hx]) rfl
      · refine j_aload_n (q := 9) hC dX2_isFull_8 rfl rfl 0 rfl ?_
        refine j_iload_n (q := 10) hC dX2_isFull_9 rfl rfl 1 rfl ?_
        refine j_bipush (q := 12) (v := 8) hC dX2_isFull_10 rfl (by decide) ?_
        refine j_imul (q := 13) hC dX2_isFull_12 rfl hf (fun x1 hf => ?_)
        refine j_iload_n (q := 14) hC dX2_isFull_13 rfl rfl 3 rfl ?_
        refine j_iadd (q := 15) hC dX2_isFull_14 rfl hf (fun x2 hf => ?_)
        refine j_iald (q := 16) hC 0 rfl dX2_isFull_15 rfl hf (fun x3 hf => ?_)
        refine j_iload_n (q := 17) hC dX2_isFull_16 rfl rfl 2 rfl ?_
        refine j_icmp_eq (tgt := 22) (q := 20) hC dX2_isFull_17 (by decide) rfl hf (fun _ hf => ?_) (fun _ hf => ?_)
        · refine j_iinc (q := 25) (v := 1) hC (fun x4 => [(3, .int x4), (0, .ref q_a0), (1, .int b1), (2, .int b2)]) dX2_isFull_22 rfl 3 rfl (by decide) (by decide) (fun _ => rfl) hf (fun x4 hf => ?_)
          refine j_goto (tgt := 2) hC dX2_isFull_25 (by decide) ?_
          refine j_sub (lv' := [(0, .ref q_a0), (1, .int b1), (2, .int b2), (3, .int x4)]) [1, 2, 3, 0] rfl ?_
          exact ih b1 b2 x4 hf
        · refine j_iconst (q := 21) (v := 0) hC dX2_isFull_20 rfl (by decide) ?_
          have hx := Option.some.inj hf
          exact j_zret hC hR rfl dX2_isFull_21 (by rw [← hx]) rfl
  unfold fX2_isFull at hf
  refine j_sub (lv' := [(0, .ref q_a0), (1, .int a1), (2, .int a2)]) [0, 1, 2] rfl ?_
  refine j_iconst (q := 1) (v := 0) hC dX2_isFull_0 rfl (by decide) ?_
  refine j_istore_n (q := 2) (lv' := [(3, .int 0), (0, .ref q_a0), (1, .int a1), (2, .int a2)]) hC dX2_isFull_1 rfl rfl (by decide) rfl ?_
  refine j_sub (lv' := [(0, .ref q_a0), (1, .int a1), (2, .int a2), (3, .int 0)]) [1, 2, 3, 0] rfl ?_
  exact B2  zF a1 a2 0 hf
noncomputable def fX2_lanesOf (a0 : Int32) : Option (Int32) :=
  zald (zSv 2) 8 a0 fun x1 =>
    if 1 ≤ x1 then (zdiv 16 x1 fun x2 =>
    some x2)
    else (some 0)
set_option maxHeartbeats 4000000 in
set_option maxRecDepth 100000 in
theorem wX2_lanesOf (E : zE) (a0 : Int32) (x : Int32) (hf : fX2_lanesOf a0 = some x) (l : Launch) (sz : Nat) : zM l yX2_lanesOf cX2_lanesOf 2 (some .int) { frames := 0, cells := 0, slots := 0, locals := 0 } E [.int a0] [] sz (some (.int x)) [] := by
  refine zEnter (by decide) (Nat.le_of_ble_eq_true rfl) ?_
  intro C hC hR
  change zC C E cX2_lanesOf "PackedCache$Shape" 2 _ at hC
  unfold fX2_lanesOf at hf
  refine j_sub (lv' := [(0, .int a0)]) [0] rfl ?_
  refine j_getsN (q := 3) hC 2 (by decide) zn_498 dX2_lanesOf_0 rfl ?_
  refine j_iload_n (q := 4) hC dX2_lanesOf_3 rfl rfl 0 rfl ?_
  refine j_tld (q := 5) hC 2 (by decide) dX2_lanesOf_4 rfl hf (fun x1 hf => ?_)
  refine j_istore_n (q := 6) (lv' := [(1, .int x1), (0, .int a0)]) hC dX2_lanesOf_5 rfl rfl (by decide) rfl ?_
  refine j_iload_n (q := 7) hC dX2_lanesOf_6 rfl rfl 0 rfl ?_
  refine j_iconst (q := 8) (v := 1) hC dX2_lanesOf_7 rfl (by decide) ?_
  refine j_icmp_ge (tgt := 15) (q := 11) hC dX2_lanesOf_8 (by decide) rfl hf (fun _ hf => ?_) (fun _ hf => ?_)
  · refine j_bipush (q := 17) (v := 16) hC dX2_lanesOf_15 rfl (by decide) ?_
    refine j_iload_n (q := 18) hC dX2_lanesOf_17 rfl rfl 0 rfl ?_
    refine j_idiv (q := 19) hC dX2_lanesOf_18 rfl hf (fun x2 hf => ?_)
    have hx := Option.some.inj hf
    exact j_iret hC hR dX2_lanesOf_19 (by rw [← hx]) rfl
  · refine j_iconst (q := 12) (v := 0) hC dX2_lanesOf_11 rfl (by decide) ?_
    refine j_goto (tgt := 19) hC dX2_lanesOf_12 (by decide) ?_
    have hx := Option.some.inj hf
    exact j_iret hC hR dX2_lanesOf_19 (by rw [← hx]) rfl
noncomputable def fX2_lane_26 (n_a0 : Nat) (s_a0 : (Nat → Int32))  : Nat → Int32 → Int32 → Int64 → Int32 → Option (Int64)
  | 0, _, _, _, _ => none
  | m + 1, b4, b5, b6, b8 =>
    if b4 ≤ b8 then (some b6)
    else (zlet (b6 <<< (Int32.toInt64 16 &&& 63) : Int64) fun x1 =>
    zlet (b5 + b8 : Int32) fun x2 =>
    zald s_a0 n_a0 x2 fun x3 =>
    zlet (Int32.toInt64 x3 : Int64) fun x4 =>
    zlet (x1 ||| x4 : Int64) fun x5 =>
    zlet (b8 + 1) fun x6 =>
    fX2_lane_26 n_a0 s_a0  m b4 b5 x5 x6)
noncomputable def fX2_lane (n_a0 : Nat) (s_a0 : (Nat → Int32)) (a1 : Int32) (a2 : Int32) (a3 : Int32) : Option (Int64) :=
  zald (zSv 2) 8 a2 fun x1 =>
    zdiv x1 2 fun x2 =>
    zlet (a1 * 8 : Int32) fun x3 =>
    zlet (a3 * x2 : Int32) fun x4 =>
    zlet (x3 + x4 : Int32) fun x5 =>
    fX2_lane_26 n_a0 s_a0  zF x2 x5 0 0
set_option maxHeartbeats 4000000 in
set_option maxRecDepth 100000 in
theorem wX2_lane (E : zE) (n_a0 : Nat) (q_a0 : Nat) (s_a0 : (Nat → Int32)) (a1 : Int32) (a2 : Int32) (a3 : Int32) (x : Int64) (hf : fX2_lane n_a0 s_a0 a1 a2 a3 = some x) (l : Launch) (sz : Nat) : zM l yX2_lane cX2_lane 9 (some .long) { frames := 0, cells := 0, slots := 0, locals := 0 } E [.ref q_a0, .int a1, .int a2, .int a3] [(q_a0, .inl (E.2.1 0, n_a0, .inl s_a0))] sz (some (.long x)) [(q_a0, .inl (E.2.1 0, n_a0, .inl s_a0))] := by
  refine zEnter (by decide) (Nat.le_of_ble_eq_true rfl) ?_
  intro C hC hR
  change zC C E cX2_lane "PackedCache$Shape" 9 _ at hC
  have B26 : ∀ (N : Nat), ∀ (b4 : Int32) (b5 : Int32) (b6 : Int64) (b8 : Int32), fX2_lane_26 n_a0 s_a0  N b4 b5 b6 b8 = some x → J C 0 0 [(q_a0, .inl (E.2.1 0, n_a0, .inl s_a0))] [(0, .ref q_a0), (4, .int b4), (5, .int b5), (6, .long b6), (8, .int b8)] 26 [] := by
    intro  N
    induction N with
    | zero =>
      intro b4 b5 b6 b8 hf
      rw [fX2_lane_26] at hf
      cases hf
    | succ m ih =>
      intro b4 b5 b6 b8 hf
      rw [fX2_lane_26] at hf
      refine j_iload (q := 28) hC dX2_lane_26 rfl 4 rfl ?_
      refine j_iload (q := 30) hC dX2_lane_28 rfl 1 rfl ?_
      refine j_icmp_ge (tgt := 55) (q := 33) hC dX2_lane_30 (by decide) rfl hf (fun _ hf => ?_) (fun _ hf => ?_)
      · refine j_lload (q := 57) hC dX2_lane_55 rfl 3 rfl ?_
        have hx := Option.some.inj hf
        exact j_lret hC hR dX2_lane_57 (by rw [← hx]) rfl
      · refine j_lload (q := 35) hC dX2_lane_33 rfl 3 rfl ?_
        refine j_bipush (q := 37) (v := 16) hC dX2_lane_35 rfl (by decide) ?_
        refine j_lshl (q := 38) hC dX2_lane_37 rfl hf (fun x1 hf => ?_)
        refine j_aload_n (q := 39) hC dX2_lane_38 rfl rfl 0 rfl ?_
        refine j_iload (q := 41) hC dX2_lane_39 rfl 2 rfl ?_
        refine j_iload (q := 43) hC dX2_lane_41 rfl 4 rfl ?_
        refine j_iadd (q := 44) hC dX2_lane_43 rfl hf (fun x2 hf => ?_)
        refine j_iald (q := 45) hC 0 rfl dX2_lane_44 rfl hf (fun x3 hf => ?_)
        refine j_i2l (q := 46) hC dX2_lane_45 rfl hf (fun x4 hf => ?_)
        refine j_lor (q := 47) hC dX2_lane_46 rfl hf (fun x5 hf => ?_)
        refine j_lstore (q := 49) (lv' := [(6, .long x5), (0, .ref q_a0), (4, .int b4), (5, .int b5), (8, .int b8)]) hC dX2_lane_47 rfl (by decide) rfl ?_
        refine j_iinc (q := 52) (v := 1) hC (fun x6 => [(8, .int x6), (6, .long x5), (0, .ref q_a0), (4, .int b4), (5, .int b5)]) dX2_lane_49 rfl 4 rfl (by decide) (by decide) (fun _ => rfl) hf (fun x6 hf => ?_)
        refine j_goto (tgt := 26) hC dX2_lane_52 (by decide) ?_
        refine j_sub (lv' := [(0, .ref q_a0), (4, .int b4), (5, .int b5), (6, .long x5), (8, .int x6)]) [2, 3, 4, 1, 0] rfl ?_
        exact ih b4 b5 x5 x6 hf
  unfold fX2_lane at hf
  refine j_sub (lv' := [(0, .ref q_a0), (1, .int a1), (2, .int a2), (3, .int a3)]) [0, 1, 2, 3] rfl ?_
  refine j_getsN (q := 3) hC 2 (by decide) zn_498 dX2_lane_0 rfl ?_
  refine j_iload_n (q := 4) hC dX2_lane_3 rfl rfl 2 rfl ?_
  refine j_tld (q := 5) hC 2 (by decide) dX2_lane_4 rfl hf (fun x1 hf => ?_)
  refine j_iconst (q := 6) (v := 2) hC dX2_lane_5 rfl (by decide) ?_
  refine j_idiv (q := 7) hC dX2_lane_6 rfl hf (fun x2 hf => ?_)
  refine j_istore (q := 9) (lv' := [(4, .int x2), (0, .ref q_a0), (1, .int a1), (2, .int a2), (3, .int a3)]) hC dX2_lane_7 rfl (by decide) rfl ?_
  refine j_iload_n (q := 10) hC dX2_lane_9 rfl rfl 2 rfl ?_
  refine j_bipush (q := 12) (v := 8) hC dX2_lane_10 rfl (by decide) ?_
  refine j_imul (q := 13) hC dX2_lane_12 rfl hf (fun x3 hf => ?_)
  refine j_iload_n (q := 14) hC dX2_lane_13 rfl rfl 4 rfl ?_
  refine j_iload (q := 16) hC dX2_lane_14 rfl 0 rfl ?_
  refine j_imul (q := 17) hC dX2_lane_16 rfl hf (fun x4 hf => ?_)
  refine j_iadd (q := 18) hC dX2_lane_17 rfl hf (fun x5 hf => ?_)
  refine j_istore (q := 20) (lv' := [(5, .int x5), (4, .int x2), (0, .ref q_a0), (1, .int a1), (2, .int a2), (3, .int a3)]) hC dX2_lane_18 rfl (by decide) rfl ?_
  refine j_lconst (q := 21) (v := 0) hC dX2_lane_20 rfl (by decide) ?_
  refine j_lstore (q := 23) (lv' := [(6, .long 0), (5, .int x5), (4, .int x2), (0, .ref q_a0), (1, .int a1), (2, .int a2), (3, .int a3)]) hC dX2_lane_21 rfl (by decide) rfl ?_
  refine j_iconst (q := 24) (v := 0) hC dX2_lane_23 rfl (by decide) ?_
  refine j_istore (q := 26) (lv' := [(8, .int 0), (6, .long 0), (5, .int x5), (4, .int x2), (0, .ref q_a0), (1, .int a1), (2, .int a2), (3, .int a3)]) hC dX2_lane_24 rfl (by decide) rfl ?_
  refine j_sub (lv' := [(0, .ref q_a0), (4, .int x2), (5, .int x5), (6, .long 0), (8, .int 0)]) [4, 3, 2, 1, 0] rfl ?_
  exact B26  zF x2 x5 0 0 hf
noncomputable def fX2_isSmall (a0 : Int64) (a2 : Int32) : Option (Int32) :=
  zald (zSv 3) 8 a2 fun x1 =>
    zlet (-x1 : Int32) fun x2 =>
    zlet (Int32.toInt64 x2 : Int64) fun x3 =>
    zlet (lg_cmp a0 x3 : Int32) fun x4 =>
    if x4 < 0 then (some 0)
    else (zald (zSv 3) 8 a2 fun x5 =>
    zlet (Int32.toInt64 x5 : Int64) fun x6 =>
    zlet (lg_cmp a0 x6 : Int32) fun x7 =>
    if 0 ≤ x7 then (some 0)
    else (some 1))
set_option maxHeartbeats 4000000 in
set_option maxRecDepth 100000 in
theorem wX2_isSmall (E : zE) (a0 : Int64) (a2 : Int32) (x : Int32) (hf : fX2_isSmall a0 a2 = some x) (l : Launch) (sz : Nat) : zM l yX2_isSmall cX2_isSmall 3 (some .boolean) { frames := 0, cells := 0, slots := 0, locals := 0 } E [.long a0, .int a2] [] sz (some (.int x)) [] := by
  refine zEnter (by decide) (Nat.le_of_ble_eq_true rfl) ?_
  intro C hC hR
  change zC C E cX2_isSmall "PackedCache$Shape" 3 _ at hC
  unfold fX2_isSmall at hf
  refine j_sub (lv' := [(0, .long a0), (2, .int a2)]) [0, 1] rfl ?_
  refine j_lload_n (q := 1) hC dX2_isSmall_0 rfl rfl 0 rfl ?_
  refine j_getsN (q := 4) hC 3 (by decide) zn_506 dX2_isSmall_1 rfl ?_
  refine j_iload_n (q := 5) hC dX2_isSmall_4 rfl rfl 1 rfl ?_
  refine j_tld (q := 6) hC 3 (by decide) dX2_isSmall_5 rfl hf (fun x1 hf => ?_)
  refine j_ineg (q := 7) hC dX2_isSmall_6 rfl hf (fun x2 hf => ?_)
  refine j_i2l (q := 8) hC dX2_isSmall_7 rfl hf (fun x3 hf => ?_)
  refine j_lcmp (q := 9) hC dX2_isSmall_8 rfl hf (fun x4 hf => ?_)
  refine j_if_lt (tgt := 27) (q := 12) hC dX2_isSmall_9 (by decide) rfl hf (fun _ hf => ?_) (fun _ hf => ?_)
  · refine j_iconst (q := 28) (v := 0) hC dX2_isSmall_27 rfl (by decide) ?_
    have hx := Option.some.inj hf
    exact j_zret hC hR rfl dX2_isSmall_28 (by rw [← hx]) rfl
  · refine j_lload_n (q := 13) hC dX2_isSmall_12 rfl rfl 0 rfl ?_
    refine j_getsN (q := 16) hC 3 (by decide) zn_506 dX2_isSmall_13 rfl ?_
    refine j_iload_n (q := 17) hC dX2_isSmall_16 rfl rfl 1 rfl ?_
    refine j_tld (q := 18) hC 3 (by decide) dX2_isSmall_17 rfl hf (fun x5 hf => ?_)
    refine j_i2l (q := 19) hC dX2_isSmall_18 rfl hf (fun x6 hf => ?_)
    refine j_lcmp (q := 20) hC dX2_isSmall_19 rfl hf (fun x7 hf => ?_)
    refine j_if_ge (tgt := 27) (q := 23) hC dX2_isSmall_20 (by decide) rfl hf (fun _ hf => ?_) (fun _ hf => ?_)
    · refine j_iconst (q := 28) (v := 0) hC dX2_isSmall_27 rfl (by decide) ?_
      have hx := Option.some.inj hf
      exact j_zret hC hR rfl dX2_isSmall_28 (by rw [← hx]) rfl
    · refine j_iconst (q := 24) (v := 1) hC dX2_isSmall_23 rfl (by decide) ?_
      refine j_goto (tgt := 28) hC dX2_isSmall_24 (by decide) ?_
      have hx := Option.some.inj hf
      exact j_zret hC hR rfl dX2_isSmall_28 (by rw [← hx]) rfl
noncomputable def fX2_holds_87 (n_a0 : Nat) (s_a0 : (Nat → Int32)) (K41 : Int32 → Int32 → Int32 → Int64 → Int32 → Option (Int32)) (b1 : Int32) (b2 : Int32) (b3 : Int32) (b4 : Int64) (b6 : Int32) (b7 : Int64) : Option (Int32) :=
  if b3 = 0 then (zlet (b6 + 1) fun x1 =>
    K41 b1 b2 1 b7 x1)
    else (zlet (b6 + 1) fun x2 =>
    K41 b1 b2 1 b4 x2)
noncomputable def fX2_holds_41 (n_a0 : Nat) (s_a0 : (Nat → Int32))  : Nat → Int32 → Int32 → Int32 → Int64 → Int32 → Option (Int32)
  | 0, _, _, _, _, _ => none
  | m + 1, b1, b2, b3, b4, b6 =>
    (fX2_lanesOf b2).bind fun x1 =>
    if x1 ≤ b6 then (some 1)
    else ((fX2_lane n_a0 s_a0 b1 b2 b6).bind fun x2 =>
    (fX2_isSmall x2 b2).bind fun x3 =>
    if x3 = 0 then (if b3 = 0 then (fX2_holds_87 n_a0 s_a0 (fX2_holds_41 n_a0 s_a0  m) b1 b2 b3 b4 b6 x2)
    else (zlet (x2 - b4 : Int64) fun x5 =>
    (fX2_isSmall x5 b2).bind fun x6 =>
    if x6 = 0 then (some 0)
    else (fX2_holds_87 n_a0 s_a0 (fX2_holds_41 n_a0 s_a0  m) b1 b2 b3 b4 b6 x2)))
    else (zlet (b6 + 1) fun x4 =>
    fX2_holds_41 n_a0 s_a0  m b1 b2 b3 b4 x4))
noncomputable def fX2_holds_29 (n_a0 : Nat) (s_a0 : (Nat → Int32))  (t0 : Int32) (t1 : Int32) : Option (Int32) :=
  (fX2_isFull n_a0 s_a0 t1 t0).bind fun x1 =>
    zbl x1 (some x1)
noncomputable def fX2_holds (n_a0 : Nat) (s_a0 : (Nat → Int32)) (a1 : Int32) (a2 : Int32) : Option (Int32) :=
  if a2 = 7 then (some 1)
    else (if 2 ≤ a2 then (fX2_holds_41 n_a0 s_a0  zF a1 a2 0 0 0)
    else (if a2 = 0 then (fX2_holds_29 n_a0 s_a0  0 a1)
    else (zlet (a1 * 8 : Int32) fun x1 =>
    zald s_a0 n_a0 x1 fun x2 =>
    fX2_holds_29 n_a0 s_a0  x2 a1)))
set_option maxHeartbeats 4000000 in
set_option maxRecDepth 100000 in
theorem wX2_holds (E : zE) (n_a0 : Nat) (q_a0 : Nat) (s_a0 : (Nat → Int32)) (a1 : Int32) (a2 : Int32) (x : Int32) (hf : fX2_holds n_a0 s_a0 a1 a2 = some x) (l : Launch) (sz : Nat) : zM l yX2_holds cX2_holds 9 (some .boolean) { frames := 1, cells := 0, slots := 0, locals := 28 } E [.ref q_a0, .int a1, .int a2] [(q_a0, .inl (E.2.1 0, n_a0, .inl s_a0))] sz (some (.int x)) [(q_a0, .inl (E.2.1 0, n_a0, .inl s_a0))] := by
  refine zEnter (by decide) (Nat.le_of_ble_eq_true rfl) ?_
  intro C hC hR
  change zC C E cX2_holds "PackedCache$Shape" 9 _ at hC
  have B87 : ∀ (K41 : Int32 → Int32 → Int32 → Int64 → Int32 → Option (Int32)), (∀ (b1 : Int32) (b2 : Int32) (b3 : Int32) (b4 : Int64) (b6 : Int32), K41 b1 b2 b3 b4 b6 = some x → J C 0 0 [(q_a0, .inl (E.2.1 0, n_a0, .inl s_a0))] [(0, .ref q_a0), (1, .int b1), (2, .int b2), (3, .int b3), (4, .long b4), (6, .int b6)] 41 []) → ∀ (b1 : Int32) (b2 : Int32) (b3 : Int32) (b4 : Int64) (b6 : Int32) (b7 : Int64), fX2_holds_87 n_a0 s_a0 K41 b1 b2 b3 b4 b6 b7 = some x → J C 0 0 [(q_a0, .inl (E.2.1 0, n_a0, .inl s_a0))] [(0, .ref q_a0), (1, .int b1), (2, .int b2), (3, .int b3), (4, .long b4), (6, .int b6), (7, .long b7)] 87 [] := by
    intro K41 H41 b1 b2 b3 b4 b6 b7 hf
    unfold fX2_holds_87 at hf
    refine j_iload_n (q := 88) hC dX2_holds_87 rfl rfl 3 rfl ?_
    refine j_if_eq (tgt := 96) (q := 91) hC dX2_holds_88 (by decide) rfl hf (fun _ hf => ?_) (fun _ hf => ?_)
    · refine j_lload (q := 98) hC dX2_holds_96 rfl 6 rfl ?_
      refine j_lstore (q := 100) (lv' := [(4, .long b7), (0, .ref q_a0), (1, .int b1), (2, .int b2), (3, .int b3), (6, .int b6), (7, .long b7)]) hC dX2_holds_98 rfl (by decide) rfl ?_
      refine j_iconst (q := 101) (v := 1) hC dX2_holds_100 rfl (by decide) ?_
      refine j_istore_n (q := 102) (lv' := [(3, .int 1), (4, .long b7), (0, .ref q_a0), (1, .int b1), (2, .int b2), (6, .int b6), (7, .long b7)]) hC dX2_holds_101 rfl rfl (by decide) rfl ?_
      refine j_iinc (q := 105) (v := 1) hC (fun x1 => [(6, .int x1), (3, .int 1), (4, .long b7), (0, .ref q_a0), (1, .int b1), (2, .int b2), (7, .long b7)]) dX2_holds_102 rfl 5 rfl (by decide) (by decide) (fun _ => rfl) hf (fun x1 hf => ?_)
      refine j_goto (tgt := 41) hC dX2_holds_105 (by decide) ?_
      refine j_sub (lv' := [(0, .ref q_a0), (1, .int b1), (2, .int b2), (3, .int 1), (4, .long b7), (6, .int x1)]) [3, 4, 5, 1, 2, 0] rfl ?_
      exact H41 b1 b2 1 b7 x1 hf
    · refine j_lload (q := 93) hC dX2_holds_91 rfl 4 rfl ?_
      refine j_goto (tgt := 98) hC dX2_holds_93 (by decide) ?_
      refine j_lstore (q := 100) (lv' := [(4, .long b4), (0, .ref q_a0), (1, .int b1), (2, .int b2), (3, .int b3), (6, .int b6), (7, .long b7)]) hC dX2_holds_98 rfl (by decide) rfl ?_
      refine j_iconst (q := 101) (v := 1) hC dX2_holds_100 rfl (by decide) ?_
      refine j_istore_n (q := 102) (lv' := [(3, .int 1), (4, .long b4), (0, .ref q_a0), (1, .int b1), (2, .int b2), (6, .int b6), (7, .long b7)]) hC dX2_holds_101 rfl rfl (by decide) rfl ?_
      refine j_iinc (q := 105) (v := 1) hC (fun x2 => [(6, .int x2), (3, .int 1), (4, .long b4), (0, .ref q_a0), (1, .int b1), (2, .int b2), (7, .long b7)]) dX2_holds_102 rfl 5 rfl (by decide) (by decide) (fun _ => rfl) hf (fun x2 hf => ?_)
      refine j_goto (tgt := 41) hC dX2_holds_105 (by decide) ?_
      refine j_sub (lv' := [(0, .ref q_a0), (1, .int b1), (2, .int b2), (3, .int 1), (4, .long b4), (6, .int x2)]) [3, 4, 5, 1, 2, 0] rfl ?_
      exact H41 b1 b2 1 b4 x2 hf
  have B41 : ∀ (N : Nat), ∀ (b1 : Int32) (b2 : Int32) (b3 : Int32) (b4 : Int64) (b6 : Int32), fX2_holds_41 n_a0 s_a0  N b1 b2 b3 b4 b6 = some x → J C 0 0 [(q_a0, .inl (E.2.1 0, n_a0, .inl s_a0))] [(0, .ref q_a0), (1, .int b1), (2, .int b2), (3, .int b3), (4, .long b4), (6, .int b6)] 41 [] := by
    intro  N
    induction N with
    | zero =>
      intro b1 b2 b3 b4 b6 hf
      rw [fX2_holds_41] at hf
      cases hf
    | succ m ih =>
      intro b1 b2 b3 b4 b6 hf
      rw [fX2_holds_41] at hf
      refine j_iload (q := 43) hC dX2_holds_41 rfl 5 rfl ?_
      refine j_iload_n (q := 44) hC dX2_holds_43 rfl rfl 2 rfl ?_
      refine j_callS (q := 47) hC [.int b2] [.int b6] (fun x1 : Int32 => some (.int x1)) (fun x1 => []) (fun x1 => [(q_a0, .inl (E.2.1 0, n_a0, .inl s_a0))]) (fun x1 => [.int x1, .int b6]) [] [0] hf (fun x1 hx => wX2_lanesOf E b2 x1  hx) zy_X2_lanesOf zw_495 (by unfold zRm; decide) rfl rfl (fun _ => rfl) (N := 1) (by decide) (fun _ => ⟨rfl, rfl, rfl⟩) rfl (Nat.le_of_ble_eq_true rfl) dX2_holds_44 rfl rfl (fun _ => rfl) (fun x1 hf => ?_)
      refine j_icmp_ge (tgt := 108) (q := 50) hC dX2_holds_47 (by decide) rfl hf (fun _ hf => ?_) (fun _ hf => ?_)
      · refine j_iconst (q := 109) (v := 1) hC dX2_holds_108 rfl (by decide) ?_
        have hx := Option.some.inj hf
        exact j_zret hC hR rfl dX2_holds_109 (by rw [← hx]) rfl
      · refine j_aload_n (q := 51) hC dX2_holds_50 rfl rfl 0 rfl ?_
        refine j_iload_n (q := 52) hC dX2_holds_51 rfl rfl 1 rfl ?_
        refine j_iload_n (q := 53) hC dX2_holds_52 rfl rfl 2 rfl ?_
        refine j_iload (q := 55) hC dX2_holds_53 rfl 5 rfl ?_
        refine j_callS (q := 58) hC [.ref q_a0, .int b1, .int b2, .int b6] [] (fun x2 : Int64 => some (.long x2)) (fun x2 => [(q_a0, .inl (E.2.1 0, n_a0, .inl s_a0))]) (fun x2 => [(q_a0, .inl (E.2.1 0, n_a0, .inl s_a0))]) (fun x2 => [.long x2]) [0] [] hf (fun x2 hx => wX2_lane E n_a0 q_a0 s_a0 b1 b2 b6 x2  hx) zy_X2_lane zw_500 (by unfold zRm; decide) rfl rfl (fun _ => rfl) (N := 1) (by decide) (fun _ => ⟨rfl, rfl, rfl⟩) rfl (Nat.le_of_ble_eq_true rfl) dX2_holds_55 rfl rfl (fun _ => rfl) (fun x2 hf => ?_)
        refine j_lstore (q := 60) (lv' := [(7, .long x2), (0, .ref q_a0), (1, .int b1), (2, .int b2), (3, .int b3), (4, .long b4), (6, .int b6)]) hC dX2_holds_58 rfl (by decide) rfl ?_
        refine j_lload (q := 62) hC dX2_holds_60 rfl 0 rfl ?_
        refine j_iload_n (q := 63) hC dX2_holds_62 rfl rfl 3 rfl ?_
        refine j_callS (q := 66) hC [.long x2, .int b2] [] (fun x3 : Int32 => some (.int x3)) (fun x3 => []) (fun x3 => [(q_a0, .inl (E.2.1 0, n_a0, .inl s_a0))]) (fun x3 => [.int x3]) [] [0] hf (fun x3 hx => wX2_isSmall E x2 b2 x3  hx) zy_X2_isSmall zw_503 (by unfold zRm; decide) rfl rfl (fun _ => rfl) (N := 1) (by decide) (fun _ => ⟨rfl, rfl, rfl⟩) rfl (Nat.le_of_ble_eq_true rfl) dX2_holds_63 rfl rfl (fun _ => rfl) (fun x3 hf => ?_)
        refine j_if_ne (tgt := 102) (q := 69) hC dX2_holds_66 (by decide) rfl hf (fun _ hf => ?_) (fun _ hf => ?_)
        · refine j_iinc (q := 105) (v := 1) hC (fun x4 => [(6, .int x4), (7, .long x2), (0, .ref q_a0), (1, .int b1), (2, .int b2), (3, .int b3), (4, .long b4)]) dX2_holds_102 rfl 6 rfl (by decide) (by decide) (fun _ => rfl) hf (fun x4 hf => ?_)
          refine j_goto (tgt := 41) hC dX2_holds_105 (by decide) ?_
          refine j_sub (lv' := [(0, .ref q_a0), (1, .int b1), (2, .int b2), (3, .int b3), (4, .long b4), (6, .int x4)]) [2, 3, 4, 5, 6, 0] rfl ?_
          exact ih b1 b2 b3 b4 x4 hf
        · refine j_iload_n (q := 70) hC dX2_holds_69 rfl rfl 4 rfl ?_
          refine j_if_eq (tgt := 87) (q := 73) hC dX2_holds_70 (by decide) rfl hf (fun _ hf => ?_) (fun _ hf => ?_)
          · refine j_sub (lv' := [(0, .ref q_a0), (1, .int b1), (2, .int b2), (3, .int b3), (4, .long b4), (6, .int b6), (7, .long x2)]) [1, 2, 3, 4, 5, 6, 0] rfl ?_
            exact B87 _ ih b1 b2 b3 b4 b6 x2 hf
          · refine j_lload (q := 75) hC dX2_holds_73 rfl 0 rfl ?_
            refine j_lload (q := 77) hC dX2_holds_75 rfl 5 rfl ?_
            refine j_lsub (q := 78) hC dX2_holds_77 rfl hf (fun x5 hf => ?_)
            refine j_iload_n (q := 79) hC dX2_holds_78 rfl rfl 3 rfl ?_
            refine j_callS (q := 82) hC [.long x5, .int b2] [] (fun x6 : Int32 => some (.int x6)) (fun x6 => []) (fun x6 => [(q_a0, .inl (E.2.1 0, n_a0, .inl s_a0))]) (fun x6 => [.int x6]) [] [0] hf (fun x6 hx => wX2_isSmall E x5 b2 x6  hx) zy_X2_isSmall zw_503 (by unfold zRm; decide) rfl rfl (fun _ => rfl) (N := 1) (by decide) (fun _ => ⟨rfl, rfl, rfl⟩) rfl (Nat.le_of_ble_eq_true rfl) dX2_holds_79 rfl rfl (fun _ => rfl) (fun x6 hf => ?_)
            refine j_if_ne (tgt := 87) (q := 85) hC dX2_holds_82 (by decide) rfl hf (fun _ hf => ?_) (fun _ hf => ?_)
            · refine j_sub (lv' := [(0, .ref q_a0), (1, .int b1), (2, .int b2), (3, .int b3), (4, .long b4), (6, .int b6), (7, .long x2)]) [1, 2, 3, 4, 5, 6, 0] rfl ?_
              exact B87 _ ih b1 b2 b3 b4 b6 x2 hf
            · refine j_iconst (q := 86) (v := 0) hC dX2_holds_85 rfl (by decide) ?_
              have hx := Option.some.inj hf
              exact j_zret hC hR rfl dX2_holds_86 (by rw [← hx]) rfl
  have B29 : ∀ (t0 : Int32) (t1 : Int32), fX2_holds_29 n_a0 s_a0  t0 t1 = some x → J C 0 0 [(q_a0, .inl (E.2.1 0, n_a0, .inl s_a0))] [] 29 [.int t0, .int t1, .ref q_a0] := by
    intro  t0 t1 hf
    unfold fX2_holds_29 at hf
    refine j_callS (q := 32) hC [.ref q_a0, .int t1, .int t0] [] (fun x1 : Int32 => some (.int x1)) (fun x1 => [(q_a0, .inl (E.2.1 0, n_a0, .inl s_a0))]) (fun x1 => [(q_a0, .inl (E.2.1 0, n_a0, .inl s_a0))]) (fun x1 => [.int x1]) [0] [] hf (fun x1 hx => wX2_isFull E n_a0 q_a0 s_a0 t1 t0 x1  hx) zy_X2_isFull zw_492 (by unfold zRm; decide) rfl rfl (fun _ => rfl) (N := 1) (by decide) (fun _ => ⟨rfl, rfl, rfl⟩) rfl (Nat.le_of_ble_eq_true rfl) dX2_holds_29 rfl rfl (fun _ => rfl) (fun x1 hf => ?_)
    obtain ⟨hz, hf⟩ := zbl_s hf
    have hx := Option.some.inj hf
    exact j_zret hC hR (zbl_n hz) dX2_holds_32 (by rw [← hx]) rfl
  unfold fX2_holds at hf
  refine j_sub (lv' := [(0, .ref q_a0), (1, .int a1), (2, .int a2)]) [0, 1, 2] rfl ?_
  refine j_iload_n (q := 1) hC dX2_holds_0 rfl rfl 2 rfl ?_
  refine j_bipush (q := 3) (v := 7) hC dX2_holds_1 rfl (by decide) ?_
  refine j_icmp_ne (tgt := 8) (q := 6) hC dX2_holds_3 (by decide) rfl hf (fun _ hf => ?_) (fun _ hf => ?_)
  · refine j_iload_n (q := 9) hC dX2_holds_8 rfl rfl 2 rfl ?_
    refine j_iconst (q := 10) (v := 2) hC dX2_holds_9 rfl (by decide) ?_
    refine j_icmp_ge (tgt := 33) (q := 13) hC dX2_holds_10 (by decide) rfl hf (fun _ hf => ?_) (fun _ hf => ?_)
    · refine j_iconst (q := 34) (v := 0) hC dX2_holds_33 rfl (by decide) ?_
      refine j_istore_n (q := 35) (lv' := [(3, .int 0), (0, .ref q_a0), (1, .int a1), (2, .int a2)]) hC dX2_holds_34 rfl rfl (by decide) rfl ?_
      refine j_lconst (q := 36) (v := 0) hC dX2_holds_35 rfl (by decide) ?_
      refine j_lstore (q := 38) (lv' := [(4, .long 0), (3, .int 0), (0, .ref q_a0), (1, .int a1), (2, .int a2)]) hC dX2_holds_36 rfl (by decide) rfl ?_
      refine j_iconst (q := 39) (v := 0) hC dX2_holds_38 rfl (by decide) ?_
      refine j_istore (q := 41) (lv' := [(6, .int 0), (4, .long 0), (3, .int 0), (0, .ref q_a0), (1, .int a1), (2, .int a2)]) hC dX2_holds_39 rfl (by decide) rfl ?_
      refine j_sub (lv' := [(0, .ref q_a0), (1, .int a1), (2, .int a2), (3, .int 0), (4, .long 0), (6, .int 0)]) [3, 4, 5, 2, 1, 0] rfl ?_
      exact B41  zF a1 a2 0 0 0 hf
    · refine j_aload_n (q := 14) hC dX2_holds_13 rfl rfl 0 rfl ?_
      refine j_iload_n (q := 15) hC dX2_holds_14 rfl rfl 1 rfl ?_
      refine j_iload_n (q := 16) hC dX2_holds_15 rfl rfl 2 rfl ?_
      refine j_if_ne (tgt := 23) (q := 19) hC dX2_holds_16 (by decide) rfl hf (fun _ hf => ?_) (fun _ hf => ?_)
      · refine j_aload_n (q := 24) hC dX2_holds_23 rfl rfl 0 rfl ?_
        refine j_iload_n (q := 25) hC dX2_holds_24 rfl rfl 1 rfl ?_
        refine j_bipush (q := 27) (v := 8) hC dX2_holds_25 rfl (by decide) ?_
        refine j_imul (q := 28) hC dX2_holds_27 rfl hf (fun x1 hf => ?_)
        refine j_iald (q := 29) hC 0 rfl dX2_holds_28 rfl hf (fun x2 hf => ?_)
        refine j_sub (lv' := []) [] rfl ?_
        exact B29  x2 a1 hf
      · refine j_iconst (q := 20) (v := 0) hC dX2_holds_19 rfl (by decide) ?_
        refine j_goto (tgt := 29) hC dX2_holds_20 (by decide) ?_
        refine j_sub (lv' := []) [] rfl ?_
        exact B29  0 a1 hf
  · refine j_iconst (q := 7) (v := 1) hC dX2_holds_6 rfl (by decide) ?_
    have hx := Option.some.inj hf
    exact j_zret hC hR rfl dX2_holds_7 (by rw [← hx]) rfl
noncomputable def fX2_shortest_2 (n_a0 : Nat) (s_a0 : (Nat → Int32))  : Nat → Int32 → Int32 → Option (Int32)
  | 0, _, _ => none
  | m + 1, b1, b2 =>
    if 7 ≤ b2 then (some 7)
    else ((fX2_holds n_a0 s_a0 b1 b2).bind fun x1 =>
    if x1 = 0 then (zlet (b2 + 1) fun x2 =>
    fX2_shortest_2 n_a0 s_a0  m b1 x2)
    else (some b2))
noncomputable def fX2_shortest (n_a0 : Nat) (s_a0 : (Nat → Int32)) (a1 : Int32) : Option (Int32) :=
  fX2_shortest_2 n_a0 s_a0  zF a1 0
set_option maxHeartbeats 4000000 in
set_option maxRecDepth 100000 in
theorem wX2_shortest (E : zE) (n_a0 : Nat) (q_a0 : Nat) (s_a0 : (Nat → Int32)) (a1 : Int32) (x : Int32) (hf : fX2_shortest n_a0 s_a0 a1 = some x) (l : Launch) (sz : Nat) : zM l yX2_shortest cX2_shortest 3 (some .int) { frames := 2, cells := 0, slots := 0, locals := 56 } E [.ref q_a0, .int a1] [(q_a0, .inl (E.2.1 0, n_a0, .inl s_a0))] sz (some (.int x)) [(q_a0, .inl (E.2.1 0, n_a0, .inl s_a0))] := by
  refine zEnter (by decide) (Nat.le_of_ble_eq_true rfl) ?_
  intro C hC hR
  change zC C E cX2_shortest "PackedCache$Shape" 3 _ at hC
  have B2 : ∀ (N : Nat), ∀ (b1 : Int32) (b2 : Int32), fX2_shortest_2 n_a0 s_a0  N b1 b2 = some x → J C 0 0 [(q_a0, .inl (E.2.1 0, n_a0, .inl s_a0))] [(0, .ref q_a0), (1, .int b1), (2, .int b2)] 2 [] := by
    intro  N
    induction N with
    | zero =>
      intro b1 b2 hf
      rw [fX2_shortest_2] at hf
      cases hf
    | succ m ih =>
      intro b1 b2 hf
      rw [fX2_shortest_2] at hf
      refine j_iload_n (q := 3) hC dX2_shortest_2 rfl rfl 2 rfl ?_
      refine j_bipush (q := 5) (v := 7) hC dX2_shortest_3 rfl (by decide) ?_
      refine j_icmp_ge (tgt := 25) (q := 8) hC dX2_shortest_5 (by decide) rfl hf (fun _ hf => ?_) (fun _ hf => ?_)
      · refine j_bipush (q := 27) (v := 7) hC dX2_shortest_25 rfl (by decide) ?_
        have hx := Option.some.inj hf
        exact j_iret hC hR dX2_shortest_27 (by rw [← hx]) rfl
      · refine j_aload_n (q := 9) hC dX2_shortest_8 rfl rfl 0 rfl ?_
        refine j_iload_n (q := 10) hC dX2_shortest_9 rfl rfl 1 rfl ?_
        refine j_iload_n (q := 11) hC dX2_shortest_10 rfl rfl 2 rfl ?_
        refine j_callS (q := 14) hC [.ref q_a0, .int b1, .int b2] [] (fun x1 : Int32 => some (.int x1)) (fun x1 => [(q_a0, .inl (E.2.1 0, n_a0, .inl s_a0))]) (fun x1 => [(q_a0, .inl (E.2.1 0, n_a0, .inl s_a0))]) (fun x1 => [.int x1]) [0] [] hf (fun x1 hx => wX2_holds E n_a0 q_a0 s_a0 b1 b2 x1  hx) zy_X2_holds zw_489 (by unfold zRm; decide) rfl rfl (fun _ => rfl) (N := 1) (by decide) (fun _ => ⟨rfl, rfl, rfl⟩) rfl (Nat.le_of_ble_eq_true rfl) dX2_shortest_11 rfl rfl (fun _ => rfl) (fun x1 hf => ?_)
        refine j_if_eq (tgt := 19) (q := 17) hC dX2_shortest_14 (by decide) rfl hf (fun _ hf => ?_) (fun _ hf => ?_)
        · refine j_iinc (q := 22) (v := 1) hC (fun x2 => [(2, .int x2), (0, .ref q_a0), (1, .int b1)]) dX2_shortest_19 rfl 2 rfl (by decide) (by decide) (fun _ => rfl) hf (fun x2 hf => ?_)
          refine j_goto (tgt := 2) hC dX2_shortest_22 (by decide) ?_
          refine j_sub (lv' := [(0, .ref q_a0), (1, .int b1), (2, .int x2)]) [1, 2, 0] rfl ?_
          exact ih b1 x2 hf
        · refine j_iload_n (q := 18) hC dX2_shortest_17 rfl rfl 2 rfl ?_
          have hx := Option.some.inj hf
          exact j_iret hC hR dX2_shortest_18 (by rw [← hx]) rfl
  unfold fX2_shortest at hf
  refine j_sub (lv' := [(0, .ref q_a0), (1, .int a1)]) [0, 1] rfl ?_
  refine j_iconst (q := 1) (v := 0) hC dX2_shortest_0 rfl (by decide) ?_
  refine j_istore_n (q := 2) (lv' := [(2, .int 0), (0, .ref q_a0), (1, .int a1)]) hC dX2_shortest_1 rfl rfl (by decide) rfl ?_
  refine j_sub (lv' := [(0, .ref q_a0), (1, .int a1), (2, .int 0)]) [1, 2, 0] rfl ?_
  exact B2  zF a1 0 hf
noncomputable def fX2_baseOf_2 (n_a0 : Nat) (s_a0 : (Nat → Int32))  : Nat → Int32 → Int32 → Int32 → Option (Int64)
  | 0, _, _, _ => none
  | m + 1, b1, b2, b3 =>
    (fX2_lanesOf b2).bind fun x1 =>
    if x1 ≤ b3 then (some 0)
    else ((fX2_lane n_a0 s_a0 b1 b2 b3).bind fun x2 =>
    (fX2_isSmall x2 b2).bind fun x3 =>
    if x3 = 0 then (some x2)
    else (zlet (b3 + 1) fun x4 =>
    fX2_baseOf_2 n_a0 s_a0  m b1 b2 x4))
noncomputable def fX2_baseOf (n_a0 : Nat) (s_a0 : (Nat → Int32)) (a1 : Int32) (a2 : Int32) : Option (Int64) :=
  fX2_baseOf_2 n_a0 s_a0  zF a1 a2 0
set_option maxHeartbeats 4000000 in
set_option maxRecDepth 100000 in
theorem wX2_baseOf (E : zE) (n_a0 : Nat) (q_a0 : Nat) (s_a0 : (Nat → Int32)) (a1 : Int32) (a2 : Int32) (x : Int64) (hf : fX2_baseOf n_a0 s_a0 a1 a2 = some x) (l : Launch) (sz : Nat) : zM l yX2_baseOf cX2_baseOf 6 (some .long) { frames := 1, cells := 0, slots := 0, locals := 28 } E [.ref q_a0, .int a1, .int a2] [(q_a0, .inl (E.2.1 0, n_a0, .inl s_a0))] sz (some (.long x)) [(q_a0, .inl (E.2.1 0, n_a0, .inl s_a0))] := by
  refine zEnter (by decide) (Nat.le_of_ble_eq_true rfl) ?_
  intro C hC hR
  change zC C E cX2_baseOf "PackedCache$Shape" 6 _ at hC
  have B2 : ∀ (N : Nat), ∀ (b1 : Int32) (b2 : Int32) (b3 : Int32), fX2_baseOf_2 n_a0 s_a0  N b1 b2 b3 = some x → J C 0 0 [(q_a0, .inl (E.2.1 0, n_a0, .inl s_a0))] [(0, .ref q_a0), (1, .int b1), (2, .int b2), (3, .int b3)] 2 [] := by
    intro  N
    induction N with
    | zero =>
      intro b1 b2 b3 hf
      rw [fX2_baseOf_2] at hf
      cases hf
    | succ m ih =>
      intro b1 b2 b3 hf
      rw [fX2_baseOf_2] at hf
      refine j_iload_n (q := 3) hC dX2_baseOf_2 rfl rfl 3 rfl ?_
      refine j_iload_n (q := 4) hC dX2_baseOf_3 rfl rfl 2 rfl ?_
      refine j_callS (q := 7) hC [.int b2] [.int b3] (fun x1 : Int32 => some (.int x1)) (fun x1 => []) (fun x1 => [(q_a0, .inl (E.2.1 0, n_a0, .inl s_a0))]) (fun x1 => [.int x1, .int b3]) [] [0] hf (fun x1 hx => wX2_lanesOf E b2 x1  hx) zy_X2_lanesOf zw_495 (by unfold zRm; decide) rfl rfl (fun _ => rfl) (N := 1) (by decide) (fun _ => ⟨rfl, rfl, rfl⟩) rfl (Nat.le_of_ble_eq_true rfl) dX2_baseOf_4 rfl rfl (fun _ => rfl) (fun x1 hf => ?_)
      refine j_icmp_ge (tgt := 37) (q := 10) hC dX2_baseOf_7 (by decide) rfl hf (fun _ hf => ?_) (fun _ hf => ?_)
      · refine j_lconst (q := 38) (v := 0) hC dX2_baseOf_37 rfl (by decide) ?_
        have hx := Option.some.inj hf
        exact j_lret hC hR dX2_baseOf_38 (by rw [← hx]) rfl
      · refine j_aload_n (q := 11) hC dX2_baseOf_10 rfl rfl 0 rfl ?_
        refine j_iload_n (q := 12) hC dX2_baseOf_11 rfl rfl 1 rfl ?_
        refine j_iload_n (q := 13) hC dX2_baseOf_12 rfl rfl 2 rfl ?_
        refine j_iload_n (q := 14) hC dX2_baseOf_13 rfl rfl 3 rfl ?_
        refine j_callS (q := 17) hC [.ref q_a0, .int b1, .int b2, .int b3] [] (fun x2 : Int64 => some (.long x2)) (fun x2 => [(q_a0, .inl (E.2.1 0, n_a0, .inl s_a0))]) (fun x2 => [(q_a0, .inl (E.2.1 0, n_a0, .inl s_a0))]) (fun x2 => [.long x2]) [0] [] hf (fun x2 hx => wX2_lane E n_a0 q_a0 s_a0 b1 b2 b3 x2  hx) zy_X2_lane zw_500 (by unfold zRm; decide) rfl rfl (fun _ => rfl) (N := 1) (by decide) (fun _ => ⟨rfl, rfl, rfl⟩) rfl (Nat.le_of_ble_eq_true rfl) dX2_baseOf_14 rfl rfl (fun _ => rfl) (fun x2 hf => ?_)
        refine j_lstore (q := 19) (lv' := [(4, .long x2), (0, .ref q_a0), (1, .int b1), (2, .int b2), (3, .int b3)]) hC dX2_baseOf_17 rfl (by decide) rfl ?_
        refine j_lload (q := 21) hC dX2_baseOf_19 rfl 0 rfl ?_
        refine j_iload_n (q := 22) hC dX2_baseOf_21 rfl rfl 3 rfl ?_
        refine j_callS (q := 25) hC [.long x2, .int b2] [] (fun x3 : Int32 => some (.int x3)) (fun x3 => []) (fun x3 => [(q_a0, .inl (E.2.1 0, n_a0, .inl s_a0))]) (fun x3 => [.int x3]) [] [0] hf (fun x3 hx => wX2_isSmall E x2 b2 x3  hx) zy_X2_isSmall zw_503 (by unfold zRm; decide) rfl rfl (fun _ => rfl) (N := 1) (by decide) (fun _ => ⟨rfl, rfl, rfl⟩) rfl (Nat.le_of_ble_eq_true rfl) dX2_baseOf_22 rfl rfl (fun _ => rfl) (fun x3 hf => ?_)
        refine j_if_ne (tgt := 31) (q := 28) hC dX2_baseOf_25 (by decide) rfl hf (fun _ hf => ?_) (fun _ hf => ?_)
        · refine j_iinc (q := 34) (v := 1) hC (fun x4 => [(3, .int x4), (4, .long x2), (0, .ref q_a0), (1, .int b1), (2, .int b2)]) dX2_baseOf_31 rfl 4 rfl (by decide) (by decide) (fun _ => rfl) hf (fun x4 hf => ?_)
          refine j_goto (tgt := 2) hC dX2_baseOf_34 (by decide) ?_
          refine j_sub (lv' := [(0, .ref q_a0), (1, .int b1), (2, .int b2), (3, .int x4)]) [2, 3, 4, 0] rfl ?_
          exact ih b1 b2 x4 hf
        · refine j_lload (q := 30) hC dX2_baseOf_28 rfl 0 rfl ?_
          have hx := Option.some.inj hf
          exact j_lret hC hR dX2_baseOf_30 (by rw [← hx]) rfl
  unfold fX2_baseOf at hf
  refine j_sub (lv' := [(0, .ref q_a0), (1, .int a1), (2, .int a2)]) [0, 1, 2] rfl ?_
  refine j_iconst (q := 1) (v := 0) hC dX2_baseOf_0 rfl (by decide) ?_
  refine j_istore_n (q := 2) (lv' := [(3, .int 0), (0, .ref q_a0), (1, .int a1), (2, .int a2)]) hC dX2_baseOf_1 rfl rfl (by decide) rfl ?_
  refine j_sub (lv' := [(0, .ref q_a0), (1, .int a1), (2, .int a2), (3, .int 0)]) [1, 2, 3, 0] rfl ?_
  exact B2  zF a1 a2 0 hf
