noncomputable def fX5_tapeFour_3   : Nat → Int32 → Int32 → Int32 → (Nat → Int32) → Option (Int32 × (Nat → Int32))
  | 0, _, _, _, _ => none
  | m + 1, b1, b2, s_taped, s_tape =>
    if b2 < 0 then (some (s_taped, s_tape))
    else (if 1200 ≤ s_taped then (zlet (b2 + (-8)) fun x1 =>
    fX5_tapeFour_3   m b1 x1 s_taped s_tape)
    else (zlet (b1 >>> (b2 &&& 31) : Int32) fun x2 =>
    zlet ((Int32.toInt8 x2).toInt32 : Int32) fun x3 =>
    zast s_tape 1200 s_taped (vp_nar .byte x3) fun x4 =>
    zlet (s_taped + 1 : Int32) fun x5 =>
    zlet (b2 + (-8)) fun x6 =>
    fX5_tapeFour_3   m b1 x6 x5 x4))
noncomputable def fX5_tapeFour (s_taped : Int32) (s_tape : (Nat → Int32)) (a1 : Int32) : Option (Int32 × (Nat → Int32)) :=
  fX5_tapeFour_3   zF a1 24 s_taped s_tape
set_option maxHeartbeats 4000000 in
set_option maxRecDepth 100000 in
theorem wX5_tapeFour (E : zE) (q_this : Nat) (q_tape : Nat) (s_taped : Int32) (s_hasCache : Int32) (s_imaged : Int32) (s_refusal : Int32) (s_tape : (Nat → Int32)) (v_plan : Value) (v_spare : Value) (v_teller : Value) (v_now : Value) (v_trial : Value) (v_past : Value) (v_images : Value) (a1 : Int32) (x : Int32 × (Nat → Int32)) (hf : fX5_tapeFour s_taped s_tape a1 = some x) (l : Launch) (sz : Nat) : zM l yX5_tapeFour cX5_tapeFour 3 none { frames := 0, cells := 0, slots := 0, locals := 0 } E [.ref q_this, .int a1] [(q_this, .inr (4, [.ref q_tape, .int s_taped, v_plan, v_spare, .int s_hasCache, v_teller, v_now, v_trial, v_past, v_images, .int s_imaged, .int s_refusal])), (q_tape, .inl (E.2.1 1, 1200, .inl s_tape))] sz none [(q_this, .inr (4, [.ref q_tape, .int x.1, v_plan, v_spare, .int s_hasCache, v_teller, v_now, v_trial, v_past, v_images, .int s_imaged, .int s_refusal])), (q_tape, .inl (E.2.1 1, 1200, .inl x.2))] := by
  refine zEnter (by decide) (Nat.le_of_ble_eq_true rfl) ?_
  intro C hC hR
  change zC C E cX5_tapeFour "PackedCache" 3 _ at hC
  have B3 : ∀ (N : Nat), ∀ (b1 : Int32) (b2 : Int32) (s_taped : Int32) (s_tape : (Nat → Int32)), fX5_tapeFour_3   N b1 b2 s_taped s_tape = some x → J C 0 0 [(q_this, .inr (4, [.ref q_tape, .int s_taped, v_plan, v_spare, .int s_hasCache, v_teller, v_now, v_trial, v_past, v_images, .int s_imaged, .int s_refusal])), (q_tape, .inl (E.2.1 1, 1200, .inl s_tape))] [(0, .ref q_this), (1, .int b1), (2, .int b2)] 3 [] := by
    intro  N
    induction N with
    | zero =>
      intro b1 b2 s_taped s_tape hf
      rw [fX5_tapeFour_3] at hf
      cases hf
    | succ m ih =>
      intro b1 b2 s_taped s_tape hf
      rw [fX5_tapeFour_3] at hf
      refine j_iload_n (q := 4) hC dX5_tapeFour_3 rfl rfl 2 rfl ?_
      refine j_if_lt (tgt := 46) (q := 7) hC dX5_tapeFour_4 (by decide) rfl hf (fun _ hf => ?_) (fun _ hf => ?_)
      · have hx := Option.some.inj hf
        exact j_vret hC hR dX5_tapeFour_46 rfl (by rw [← hx])
      · refine j_aload_n (q := 8) hC dX5_tapeFour_7 rfl rfl 0 rfl ?_
        refine j_get (q := 11) hC zcl_X5 0 1 zw_243 ⟨rfl, rfl, by decide⟩ rfl rfl dX5_tapeFour_8 rfl ?_
        refine j_sipush (q := 14) (v := 1200) hC dX5_tapeFour_11 rfl (by decide) ?_
        refine j_icmp_ge (tgt := 40) (q := 17) hC dX5_tapeFour_14 (by decide) rfl hf (fun _ hf => ?_) (fun _ hf => ?_)
        · refine j_iinc (q := 43) (v := (-8)) hC (fun x1 => [(2, .int x1), (0, .ref q_this), (1, .int b1)]) dX5_tapeFour_40 rfl 2 rfl (by decide) (by decide) (fun _ => rfl) hf (fun x1 hf => ?_)
          refine j_goto (tgt := 3) hC dX5_tapeFour_43 (by decide) ?_
          refine j_sub (lv' := [(0, .ref q_this), (1, .int b1), (2, .int x1)]) [1, 2, 0] rfl ?_
          exact ih b1 x1 s_taped s_tape hf
        · refine j_aload_n (q := 18) hC dX5_tapeFour_17 rfl rfl 0 rfl ?_
          refine j_get (q := 21) hC zcl_X5 0 0 zw_242 ⟨rfl, rfl, by decide⟩ rfl rfl dX5_tapeFour_18 rfl ?_
          refine j_aload_n (q := 22) hC dX5_tapeFour_21 rfl rfl 0 rfl ?_
          refine j_get (q := 25) hC zcl_X5 0 1 zw_243 ⟨rfl, rfl, by decide⟩ rfl rfl dX5_tapeFour_22 rfl ?_
          refine j_iload_n (q := 26) hC dX5_tapeFour_25 rfl rfl 1 rfl ?_
          refine j_iload_n (q := 27) hC dX5_tapeFour_26 rfl rfl 2 rfl ?_
          refine j_ishr (q := 28) hC dX5_tapeFour_27 rfl hf (fun x2 hf => ?_)
          refine j_i2b (q := 29) hC dX5_tapeFour_28 rfl hf (fun x3 hf => ?_)
          refine j_bast (q := 30) hC (fun x4 => [(q_this, .inr (4, [.ref q_tape, .int s_taped, v_plan, v_spare, .int s_hasCache, v_teller, v_now, v_trial, v_past, v_images, .int s_imaged, .int s_refusal])), (q_tape, .inl (E.2.1 1, 1200, .inl x4))]) 1 rfl (fun _ => rfl) dX5_tapeFour_29 rfl hf (fun x4 hf => ?_)
          refine j_aload_n (q := 31) hC dX5_tapeFour_30 rfl rfl 0 rfl ?_
          refine j_dup (q := 32) hC dX5_tapeFour_31 rfl rfl ?_
          refine j_get (q := 35) hC zcl_X5 0 1 zw_243 ⟨rfl, rfl, by decide⟩ rfl rfl dX5_tapeFour_32 rfl ?_
          refine j_iconst (q := 36) (v := 1) hC dX5_tapeFour_35 rfl (by decide) ?_
          refine j_iadd (q := 37) hC dX5_tapeFour_36 rfl hf (fun x5 hf => ?_)
          refine j_put (q := 40) (host := "") hC zcl_X5 0 1 (ws' := [(q_this, .inr (4, [.ref q_tape, .int x5, v_plan, v_spare, .int s_hasCache, v_teller, v_now, v_trial, v_past, v_images, .int s_imaged, .int s_refusal])), (q_tape, .inl (E.2.1 1, 1200, .inl x4))]) zw_243 ⟨rfl, rfl, by decide, rfl⟩ rfl rfl rfl (Nat.le_of_ble_eq_true rfl) rfl dX5_tapeFour_37 rfl ?_
          refine j_iinc (q := 43) (v := (-8)) hC (fun x6 => [(2, .int x6), (0, .ref q_this), (1, .int b1)]) dX5_tapeFour_40 rfl 2 rfl (by decide) (by decide) (fun _ => rfl) hf (fun x6 hf => ?_)
          refine j_goto (tgt := 3) hC dX5_tapeFour_43 (by decide) ?_
          refine j_sub (lv' := [(0, .ref q_this), (1, .int b1), (2, .int x6)]) [1, 2, 0] rfl ?_
          exact ih b1 x6 x5 x4 hf
  unfold fX5_tapeFour at hf
  refine j_sub (lv' := [(0, .ref q_this), (1, .int a1)]) [0, 1] rfl ?_
  refine j_bipush (q := 2) (v := 24) hC dX5_tapeFour_0 rfl (by decide) ?_
  refine j_istore_n (q := 3) (lv' := [(2, .int 24), (0, .ref q_this), (1, .int a1)]) hC dX5_tapeFour_2 rfl rfl (by decide) rfl ?_
  refine j_sub (lv' := [(0, .ref q_this), (1, .int a1), (2, .int 24)]) [1, 2, 0] rfl ?_
  exact B3  zF a1 24 s_taped s_tape hf
noncomputable def fX5_feed (s_taped : Int32) (s_tape : (Nat → Int32)) (a1 : Int32) (a2 : Int32) (a3 : Int32) (a4 : Int32) (a5 : Int32) : Option (Int32 × Int32 × (Nat → Int32)) :=
  if s_taped ≤ 1180 then ((fX5_tapeFour s_taped s_tape a1).bind fun x1 =>
    (fX5_tapeFour x1.1 x1.2 a2).bind fun x2 =>
    (fX5_tapeFour x2.1 x2.2 a3).bind fun x3 =>
    (fX5_tapeFour x3.1 x3.2 a4).bind fun x4 =>
    (fX5_tapeFour x4.1 x4.2 a5).bind fun x5 =>
    some (x5.1, x5.1, x5.2))
    else (some ((-1), s_taped, s_tape))
set_option maxHeartbeats 4000000 in
set_option maxRecDepth 100000 in
theorem wX5_feed (E : zE) (q_this : Nat) (q_tape : Nat) (s_taped : Int32) (s_hasCache : Int32) (s_imaged : Int32) (s_refusal : Int32) (s_tape : (Nat → Int32)) (v_plan : Value) (v_spare : Value) (v_teller : Value) (v_now : Value) (v_trial : Value) (v_past : Value) (v_images : Value) (a1 : Int32) (a2 : Int32) (a3 : Int32) (a4 : Int32) (a5 : Int32) (x : Int32 × Int32 × (Nat → Int32)) (hf : fX5_feed s_taped s_tape a1 a2 a3 a4 a5 = some x) (l : Launch) (sz : Nat) : zM l yX5_feed cX5_feed 6 (some .int) { frames := 1, cells := 0, slots := 0, locals := 22 } E [.ref q_this, .int a1, .int a2, .int a3, .int a4, .int a5] [(q_this, .inr (4, [.ref q_tape, .int s_taped, v_plan, v_spare, .int s_hasCache, v_teller, v_now, v_trial, v_past, v_images, .int s_imaged, .int s_refusal])), (q_tape, .inl (E.2.1 1, 1200, .inl s_tape))] sz (some (.int x.1)) [(q_this, .inr (4, [.ref q_tape, .int x.2.1, v_plan, v_spare, .int s_hasCache, v_teller, v_now, v_trial, v_past, v_images, .int s_imaged, .int s_refusal])), (q_tape, .inl (E.2.1 1, 1200, .inl x.2.2))] := by
  refine zEnter (by decide) (Nat.le_of_ble_eq_true rfl) ?_
  intro C hC hR
  change zC C E cX5_feed "PackedCache" 6 _ at hC
  unfold fX5_feed at hf
  refine j_sub (lv' := [(0, .ref q_this), (1, .int a1), (2, .int a2), (3, .int a3), (4, .int a4), (5, .int a5)]) [0, 1, 2, 3, 4, 5] rfl ?_
  refine j_aload_n (q := 1) hC dX5_feed_0 rfl rfl 0 rfl ?_
  refine j_get (q := 4) hC zcl_X5 0 1 zw_243 ⟨rfl, rfl, by decide⟩ rfl rfl dX5_feed_1 rfl ?_
  refine j_sipush (q := 7) (v := 1180) hC dX5_feed_4 rfl (by decide) ?_
  refine j_icmp_le (tgt := 12) (q := 10) hC dX5_feed_7 (by decide) rfl hf (fun _ hf => ?_) (fun _ hf => ?_)
  · refine j_aload_n (q := 13) hC dX5_feed_12 rfl rfl 0 rfl ?_
    refine j_iload_n (q := 14) hC dX5_feed_13 rfl rfl 1 rfl ?_
    refine j_callV (q := 17) hC [.int a1] [] (fun x1 : Int32 × (Nat → Int32) => none) (fun x1 => [(q_this, .inr (4, [.ref q_tape, .int x1.1, v_plan, v_spare, .int s_hasCache, v_teller, v_now, v_trial, v_past, v_images, .int s_imaged, .int s_refusal])), (q_tape, .inl (E.2.1 1, 1200, .inl x1.2))]) (fun x1 => [(q_this, .inr (4, [.ref q_tape, .int x1.1, v_plan, v_spare, .int s_hasCache, v_teller, v_now, v_trial, v_past, v_images, .int s_imaged, .int s_refusal])), (q_tape, .inl (E.2.1 1, 1200, .inl x1.2))]) (fun x1 => []) [0, 1] [] hf (fun x1 hx => wX5_tapeFour E q_this q_tape s_taped s_hasCache s_imaged s_refusal s_tape (v_plan) (v_spare) (v_teller) (v_now) (v_trial) (v_past) (v_images) a1 x1  hx) zy_X5_tapeFour zw_283 (by unfold zRm; decide) rfl rfl (fun _ => rfl) (N := 2) (by decide) (fun _ => ⟨rfl, rfl, rfl⟩) rfl rfl rfl (Nat.le_of_ble_eq_true rfl) dX5_feed_14 rfl rfl (fun _ => rfl) (fun x1 hf => ?_)
    refine j_aload_n (q := 18) hC dX5_feed_17 rfl rfl 0 rfl ?_
    refine j_iload_n (q := 19) hC dX5_feed_18 rfl rfl 2 rfl ?_
    refine j_callV (q := 22) hC [.int a2] [] (fun x2 : Int32 × (Nat → Int32) => none) (fun x2 => [(q_this, .inr (4, [.ref q_tape, .int x2.1, v_plan, v_spare, .int s_hasCache, v_teller, v_now, v_trial, v_past, v_images, .int s_imaged, .int s_refusal])), (q_tape, .inl (E.2.1 1, 1200, .inl x2.2))]) (fun x2 => [(q_this, .inr (4, [.ref q_tape, .int x2.1, v_plan, v_spare, .int s_hasCache, v_teller, v_now, v_trial, v_past, v_images, .int s_imaged, .int s_refusal])), (q_tape, .inl (E.2.1 1, 1200, .inl x2.2))]) (fun x2 => []) [0, 1] [] hf (fun x2 hx => wX5_tapeFour E q_this q_tape x1.1 s_hasCache s_imaged s_refusal x1.2 (v_plan) (v_spare) (v_teller) (v_now) (v_trial) (v_past) (v_images) a2 x2  hx) zy_X5_tapeFour zw_283 (by unfold zRm; decide) rfl rfl (fun _ => rfl) (N := 2) (by decide) (fun _ => ⟨rfl, rfl, rfl⟩) rfl rfl rfl (Nat.le_of_ble_eq_true rfl) dX5_feed_19 rfl rfl (fun _ => rfl) (fun x2 hf => ?_)
    refine j_aload_n (q := 23) hC dX5_feed_22 rfl rfl 0 rfl ?_
    refine j_iload_n (q := 24) hC dX5_feed_23 rfl rfl 3 rfl ?_
    refine j_callV (q := 27) hC [.int a3] [] (fun x3 : Int32 × (Nat → Int32) => none) (fun x3 => [(q_this, .inr (4, [.ref q_tape, .int x3.1, v_plan, v_spare, .int s_hasCache, v_teller, v_now, v_trial, v_past, v_images, .int s_imaged, .int s_refusal])), (q_tape, .inl (E.2.1 1, 1200, .inl x3.2))]) (fun x3 => [(q_this, .inr (4, [.ref q_tape, .int x3.1, v_plan, v_spare, .int s_hasCache, v_teller, v_now, v_trial, v_past, v_images, .int s_imaged, .int s_refusal])), (q_tape, .inl (E.2.1 1, 1200, .inl x3.2))]) (fun x3 => []) [0, 1] [] hf (fun x3 hx => wX5_tapeFour E q_this q_tape x2.1 s_hasCache s_imaged s_refusal x2.2 (v_plan) (v_spare) (v_teller) (v_now) (v_trial) (v_past) (v_images) a3 x3  hx) zy_X5_tapeFour zw_283 (by unfold zRm; decide) rfl rfl (fun _ => rfl) (N := 2) (by decide) (fun _ => ⟨rfl, rfl, rfl⟩) rfl rfl rfl (Nat.le_of_ble_eq_true rfl) dX5_feed_24 rfl rfl (fun _ => rfl) (fun x3 hf => ?_)
    refine j_aload_n (q := 28) hC dX5_feed_27 rfl rfl 0 rfl ?_
    refine j_iload (q := 30) hC dX5_feed_28 rfl 4 rfl ?_
    refine j_callV (q := 33) hC [.int a4] [] (fun x4 : Int32 × (Nat → Int32) => none) (fun x4 => [(q_this, .inr (4, [.ref q_tape, .int x4.1, v_plan, v_spare, .int s_hasCache, v_teller, v_now, v_trial, v_past, v_images, .int s_imaged, .int s_refusal])), (q_tape, .inl (E.2.1 1, 1200, .inl x4.2))]) (fun x4 => [(q_this, .inr (4, [.ref q_tape, .int x4.1, v_plan, v_spare, .int s_hasCache, v_teller, v_now, v_trial, v_past, v_images, .int s_imaged, .int s_refusal])), (q_tape, .inl (E.2.1 1, 1200, .inl x4.2))]) (fun x4 => []) [0, 1] [] hf (fun x4 hx => wX5_tapeFour E q_this q_tape x3.1 s_hasCache s_imaged s_refusal x3.2 (v_plan) (v_spare) (v_teller) (v_now) (v_trial) (v_past) (v_images) a4 x4  hx) zy_X5_tapeFour zw_283 (by unfold zRm; decide) rfl rfl (fun _ => rfl) (N := 2) (by decide) (fun _ => ⟨rfl, rfl, rfl⟩) rfl rfl rfl (Nat.le_of_ble_eq_true rfl) dX5_feed_30 rfl rfl (fun _ => rfl) (fun x4 hf => ?_)
    refine j_aload_n (q := 34) hC dX5_feed_33 rfl rfl 0 rfl ?_
    refine j_iload (q := 36) hC dX5_feed_34 rfl 5 rfl ?_
    refine j_callV (q := 39) hC [.int a5] [] (fun x5 : Int32 × (Nat → Int32) => none) (fun x5 => [(q_this, .inr (4, [.ref q_tape, .int x5.1, v_plan, v_spare, .int s_hasCache, v_teller, v_now, v_trial, v_past, v_images, .int s_imaged, .int s_refusal])), (q_tape, .inl (E.2.1 1, 1200, .inl x5.2))]) (fun x5 => [(q_this, .inr (4, [.ref q_tape, .int x5.1, v_plan, v_spare, .int s_hasCache, v_teller, v_now, v_trial, v_past, v_images, .int s_imaged, .int s_refusal])), (q_tape, .inl (E.2.1 1, 1200, .inl x5.2))]) (fun x5 => []) [0, 1] [] hf (fun x5 hx => wX5_tapeFour E q_this q_tape x4.1 s_hasCache s_imaged s_refusal x4.2 (v_plan) (v_spare) (v_teller) (v_now) (v_trial) (v_past) (v_images) a5 x5  hx) zy_X5_tapeFour zw_283 (by unfold zRm; decide) rfl rfl (fun _ => rfl) (N := 2) (by decide) (fun _ => ⟨rfl, rfl, rfl⟩) rfl rfl rfl (Nat.le_of_ble_eq_true rfl) dX5_feed_36 rfl rfl (fun _ => rfl) (fun x5 hf => ?_)
    refine j_aload_n (q := 40) hC dX5_feed_39 rfl rfl 0 rfl ?_
    refine j_get (q := 43) hC zcl_X5 0 1 zw_243 ⟨rfl, rfl, by decide⟩ rfl rfl dX5_feed_40 rfl ?_
    have hx := Option.some.inj hf
    exact j_iret hC hR dX5_feed_43 (by rw [← hx]) (by rw [← hx])
  · refine j_iconst (q := 11) (v := (-1)) hC dX5_feed_10 rfl (by decide) ?_
    have hx := Option.some.inj hf
    exact j_iret hC hR dX5_feed_11 (by rw [← hx]) (by rw [← hx])
noncomputable def fX5_fault (s_teller_faultFound : Int32) : Option (Int32) :=
  some s_teller_faultFound
set_option maxHeartbeats 4000000 in
set_option maxRecDepth 100000 in
theorem wX5_fault (E : zE) (q_this : Nat) (q_teller : Nat) (s_taped : Int32) (s_hasCache : Int32) (s_imaged : Int32) (s_refusal : Int32) (s_teller_end : Int32) (s_teller_at : Int32) (s_teller_kind : Int32) (s_teller_start : Int32) (s_teller_value : Int32) (s_teller_faultFound : Int32) (s_teller_faultPlace : Int32) (v_tape : Value) (v_plan : Value) (v_spare : Value) (v_now : Value) (v_trial : Value) (v_past : Value) (v_images : Value) (v_teller_text : Value) (v_teller_told : Value) (x : Int32) (hf : fX5_fault s_teller_faultFound = some x) (l : Launch) (sz : Nat) : zM l yX5_fault cX5_fault 1 (some .int) { frames := 0, cells := 0, slots := 0, locals := 0 } E [.ref q_this] [(q_this, .inr (4, [v_tape, .int s_taped, v_plan, v_spare, .int s_hasCache, .ref q_teller, v_now, v_trial, v_past, v_images, .int s_imaged, .int s_refusal])), (q_teller, .inr (3, [v_teller_text, .int s_teller_end, .int s_teller_at, .int s_teller_kind, .int s_teller_start, .int s_teller_value, v_teller_told, .int s_teller_faultFound, .int s_teller_faultPlace]))] sz (some (.int x)) [(q_this, .inr (4, [v_tape, .int s_taped, v_plan, v_spare, .int s_hasCache, .ref q_teller, v_now, v_trial, v_past, v_images, .int s_imaged, .int s_refusal])), (q_teller, .inr (3, [v_teller_text, .int s_teller_end, .int s_teller_at, .int s_teller_kind, .int s_teller_start, .int s_teller_value, v_teller_told, .int s_teller_faultFound, .int s_teller_faultPlace]))] := by
  refine zEnter (by decide) (Nat.le_of_ble_eq_true rfl) ?_
  intro C hC hR
  change zC C E cX5_fault "PackedCache" 1 _ at hC
  unfold fX5_fault at hf
  refine j_sub (lv' := [(0, .ref q_this)]) [0] rfl ?_
  refine j_aload_n (q := 1) hC dX5_fault_0 rfl rfl 0 rfl ?_
  refine j_get (q := 4) hC zcl_X5 0 5 zw_247 ⟨rfl, rfl, by decide⟩ rfl rfl dX5_fault_1 rfl ?_
  refine j_getN (q := 7) hC zcl_X4 1 7 zn_137 ⟨rfl, rfl, by decide⟩ rfl rfl dX5_fault_4 rfl ?_
  have hx := Option.some.inj hf
  exact j_iret hC hR dX5_fault_7 (by rw [← hx]) rfl
noncomputable def fX5_where (s_refusal : Int32) (s_teller_faultPlace : Int32) : Option (Int32) :=
  if s_refusal = 4 then (some s_teller_faultPlace)
    else (some (-1))
set_option maxHeartbeats 4000000 in
set_option maxRecDepth 100000 in
theorem wX5_where (E : zE) (q_this : Nat) (q_teller : Nat) (s_taped : Int32) (s_hasCache : Int32) (s_imaged : Int32) (s_refusal : Int32) (s_teller_end : Int32) (s_teller_at : Int32) (s_teller_kind : Int32) (s_teller_start : Int32) (s_teller_value : Int32) (s_teller_faultFound : Int32) (s_teller_faultPlace : Int32) (v_tape : Value) (v_plan : Value) (v_spare : Value) (v_now : Value) (v_trial : Value) (v_past : Value) (v_images : Value) (v_teller_text : Value) (v_teller_told : Value) (x : Int32) (hf : fX5_where s_refusal s_teller_faultPlace = some x) (l : Launch) (sz : Nat) : zM l yX5_where cX5_where 1 (some .int) { frames := 0, cells := 0, slots := 0, locals := 0 } E [.ref q_this] [(q_this, .inr (4, [v_tape, .int s_taped, v_plan, v_spare, .int s_hasCache, .ref q_teller, v_now, v_trial, v_past, v_images, .int s_imaged, .int s_refusal])), (q_teller, .inr (3, [v_teller_text, .int s_teller_end, .int s_teller_at, .int s_teller_kind, .int s_teller_start, .int s_teller_value, v_teller_told, .int s_teller_faultFound, .int s_teller_faultPlace]))] sz (some (.int x)) [(q_this, .inr (4, [v_tape, .int s_taped, v_plan, v_spare, .int s_hasCache, .ref q_teller, v_now, v_trial, v_past, v_images, .int s_imaged, .int s_refusal])), (q_teller, .inr (3, [v_teller_text, .int s_teller_end, .int s_teller_at, .int s_teller_kind, .int s_teller_start, .int s_teller_value, v_teller_told, .int s_teller_faultFound, .int s_teller_faultPlace]))] := by
  refine zEnter (by decide) (Nat.le_of_ble_eq_true rfl) ?_
  intro C hC hR
  change zC C E cX5_where "PackedCache" 1 _ at hC
  unfold fX5_where at hf
  refine j_sub (lv' := [(0, .ref q_this)]) [0] rfl ?_
  refine j_aload_n (q := 1) hC dX5_where_0 rfl rfl 0 rfl ?_
  refine j_get (q := 4) hC zcl_X5 0 11 zw_253 ⟨rfl, rfl, by decide⟩ rfl rfl dX5_where_1 rfl ?_
  refine j_iconst (q := 5) (v := 4) hC dX5_where_4 rfl (by decide) ?_
  refine j_icmp_ne (tgt := 18) (q := 8) hC dX5_where_5 (by decide) rfl hf (fun _ hf => ?_) (fun _ hf => ?_)
  · refine j_iconst (q := 19) (v := (-1)) hC dX5_where_18 rfl (by decide) ?_
    have hx := Option.some.inj hf
    exact j_iret hC hR dX5_where_19 (by rw [← hx]) rfl
  · refine j_aload_n (q := 9) hC dX5_where_8 rfl rfl 0 rfl ?_
    refine j_get (q := 12) hC zcl_X5 0 5 zw_247 ⟨rfl, rfl, by decide⟩ rfl rfl dX5_where_9 rfl ?_
    refine j_getN (q := 15) hC zcl_X4 1 8 zn_139 ⟨rfl, rfl, by decide⟩ rfl rfl dX5_where_12 rfl ?_
    refine j_goto (tgt := 19) hC dX5_where_15 (by decide) ?_
    have hx := Option.some.inj hf
    exact j_iret hC hR dX5_where_19 (by rw [← hx]) rfl
noncomputable def fX5_isLine (s_hasCache : Int32) (a1 : Int32) : Option (Int32) :=
  if s_hasCache = 0 then (some 0)
    else (if a1 < 0 then (some 0)
    else (if 32 ≤ a1 then (some 0)
    else (some 1)))
set_option maxHeartbeats 4000000 in
set_option maxRecDepth 100000 in
theorem wX5_isLine (E : zE) (q_this : Nat) (s_taped : Int32) (s_hasCache : Int32) (s_imaged : Int32) (s_refusal : Int32) (v_tape : Value) (v_plan : Value) (v_spare : Value) (v_teller : Value) (v_now : Value) (v_trial : Value) (v_past : Value) (v_images : Value) (a1 : Int32) (x : Int32) (hf : fX5_isLine s_hasCache a1 = some x) (l : Launch) (sz : Nat) : zM l yX5_isLine cX5_isLine 2 (some .boolean) { frames := 0, cells := 0, slots := 0, locals := 0 } E [.ref q_this, .int a1] [(q_this, .inr (4, [v_tape, .int s_taped, v_plan, v_spare, .int s_hasCache, v_teller, v_now, v_trial, v_past, v_images, .int s_imaged, .int s_refusal]))] sz (some (.int x)) [(q_this, .inr (4, [v_tape, .int s_taped, v_plan, v_spare, .int s_hasCache, v_teller, v_now, v_trial, v_past, v_images, .int s_imaged, .int s_refusal]))] := by
  refine zEnter (by decide) (Nat.le_of_ble_eq_true rfl) ?_
  intro C hC hR
  change zC C E cX5_isLine "PackedCache" 2 _ at hC
  unfold fX5_isLine at hf
  refine j_sub (lv' := [(0, .ref q_this), (1, .int a1)]) [0, 1] rfl ?_
  refine j_aload_n (q := 1) hC dX5_isLine_0 rfl rfl 0 rfl ?_
  refine j_get (q := 4) hC zcl_X5 0 4 zw_246 ⟨rfl, rfl, by decide⟩ rfl rfl dX5_isLine_1 rfl ?_
  refine j_if_eq (tgt := 21) (q := 7) hC dX5_isLine_4 (by decide) rfl hf (fun _ hf => ?_) (fun _ hf => ?_)
  · refine j_iconst (q := 22) (v := 0) hC dX5_isLine_21 rfl (by decide) ?_
    have hx := Option.some.inj hf
    exact j_zret hC hR rfl dX5_isLine_22 (by rw [← hx]) rfl
  · refine j_iload_n (q := 8) hC dX5_isLine_7 rfl rfl 1 rfl ?_
    refine j_if_lt (tgt := 21) (q := 11) hC dX5_isLine_8 (by decide) rfl hf (fun _ hf => ?_) (fun _ hf => ?_)
    · refine j_iconst (q := 22) (v := 0) hC dX5_isLine_21 rfl (by decide) ?_
      have hx := Option.some.inj hf
      exact j_zret hC hR rfl dX5_isLine_22 (by rw [← hx]) rfl
    · refine j_iload_n (q := 12) hC dX5_isLine_11 rfl rfl 1 rfl ?_
      refine j_bipush (q := 14) (v := 32) hC dX5_isLine_12 rfl (by decide) ?_
      refine j_icmp_ge (tgt := 21) (q := 17) hC dX5_isLine_14 (by decide) rfl hf (fun _ hf => ?_) (fun _ hf => ?_)
      · refine j_iconst (q := 22) (v := 0) hC dX5_isLine_21 rfl (by decide) ?_
        have hx := Option.some.inj hf
        exact j_zret hC hR rfl dX5_isLine_22 (by rw [← hx]) rfl
      · refine j_iconst (q := 18) (v := 1) hC dX5_isLine_17 rfl (by decide) ?_
        refine j_goto (tgt := 22) hC dX5_isLine_18 (by decide) ?_
        have hx := Option.some.inj hf
        exact j_zret hC hR rfl dX5_isLine_22 (by rw [← hx]) rfl
noncomputable def fX5_isPlace (s_hasCache : Int32) (a1 : Int32) (a2 : Int32) : Option (Int32) :=
  (fX5_isLine s_hasCache a1).bind fun x1 =>
    if x1 = 0 then (some 0)
    else (if a2 < 0 then (some 0)
    else (if 8 ≤ a2 then (some 0)
    else (some 1)))
set_option maxHeartbeats 4000000 in
set_option maxRecDepth 100000 in
theorem wX5_isPlace (E : zE) (q_this : Nat) (s_taped : Int32) (s_hasCache : Int32) (s_imaged : Int32) (s_refusal : Int32) (v_tape : Value) (v_plan : Value) (v_spare : Value) (v_teller : Value) (v_now : Value) (v_trial : Value) (v_past : Value) (v_images : Value) (a1 : Int32) (a2 : Int32) (x : Int32) (hf : fX5_isPlace s_hasCache a1 a2 = some x) (l : Launch) (sz : Nat) : zM l yX5_isPlace cX5_isPlace 3 (some .boolean) { frames := 1, cells := 0, slots := 0, locals := 21 } E [.ref q_this, .int a1, .int a2] [(q_this, .inr (4, [v_tape, .int s_taped, v_plan, v_spare, .int s_hasCache, v_teller, v_now, v_trial, v_past, v_images, .int s_imaged, .int s_refusal]))] sz (some (.int x)) [(q_this, .inr (4, [v_tape, .int s_taped, v_plan, v_spare, .int s_hasCache, v_teller, v_now, v_trial, v_past, v_images, .int s_imaged, .int s_refusal]))] := by
  refine zEnter (by decide) (Nat.le_of_ble_eq_true rfl) ?_
  intro C hC hR
  change zC C E cX5_isPlace "PackedCache" 3 _ at hC
  unfold fX5_isPlace at hf
  refine j_sub (lv' := [(0, .ref q_this), (1, .int a1), (2, .int a2)]) [0, 1, 2] rfl ?_
  refine j_aload_n (q := 1) hC dX5_isPlace_0 rfl rfl 0 rfl ?_
  refine j_iload_n (q := 2) hC dX5_isPlace_1 rfl rfl 1 rfl ?_
  refine j_callV (q := 5) hC [.int a1] [] (fun x1 : Int32 => some (.int x1)) (fun x1 => [(q_this, .inr (4, [v_tape, .int s_taped, v_plan, v_spare, .int s_hasCache, v_teller, v_now, v_trial, v_past, v_images, .int s_imaged, .int s_refusal]))]) (fun x1 => [(q_this, .inr (4, [v_tape, .int s_taped, v_plan, v_spare, .int s_hasCache, v_teller, v_now, v_trial, v_past, v_images, .int s_imaged, .int s_refusal]))]) (fun x1 => [.int x1]) [0] [] hf (fun x1 hx => wX5_isLine E q_this s_taped s_hasCache s_imaged s_refusal (v_tape) (v_plan) (v_spare) (v_teller) (v_now) (v_trial) (v_past) (v_images) a1 x1  hx) zy_X5_isLine zw_474 (by unfold zRm; decide) rfl rfl (fun _ => rfl) (N := 1) (by decide) (fun _ => ⟨rfl, rfl, rfl⟩) rfl rfl rfl (Nat.le_of_ble_eq_true rfl) dX5_isPlace_2 rfl rfl (fun _ => rfl) (fun x1 hf => ?_)
  refine j_if_eq (tgt := 22) (q := 8) hC dX5_isPlace_5 (by decide) rfl hf (fun _ hf => ?_) (fun _ hf => ?_)
  · refine j_iconst (q := 23) (v := 0) hC dX5_isPlace_22 rfl (by decide) ?_
    have hx := Option.some.inj hf
    exact j_zret hC hR rfl dX5_isPlace_23 (by rw [← hx]) rfl
  · refine j_iload_n (q := 9) hC dX5_isPlace_8 rfl rfl 2 rfl ?_
    refine j_if_lt (tgt := 22) (q := 12) hC dX5_isPlace_9 (by decide) rfl hf (fun _ hf => ?_) (fun _ hf => ?_)
    · refine j_iconst (q := 23) (v := 0) hC dX5_isPlace_22 rfl (by decide) ?_
      have hx := Option.some.inj hf
      exact j_zret hC hR rfl dX5_isPlace_23 (by rw [← hx]) rfl
    · refine j_iload_n (q := 13) hC dX5_isPlace_12 rfl rfl 2 rfl ?_
      refine j_bipush (q := 15) (v := 8) hC dX5_isPlace_13 rfl (by decide) ?_
      refine j_icmp_ge (tgt := 22) (q := 18) hC dX5_isPlace_15 (by decide) rfl hf (fun _ hf => ?_) (fun _ hf => ?_)
      · refine j_iconst (q := 23) (v := 0) hC dX5_isPlace_22 rfl (by decide) ?_
        have hx := Option.some.inj hf
        exact j_zret hC hR rfl dX5_isPlace_23 (by rw [← hx]) rfl
      · refine j_iconst (q := 19) (v := 1) hC dX5_isPlace_18 rfl (by decide) ?_
        refine j_goto (tgt := 23) hC dX5_isPlace_19 (by decide) ?_
        have hx := Option.some.inj hf
        exact j_zret hC hR rfl dX5_isPlace_23 (by rw [← hx]) rfl
noncomputable def fX5_pass (s_refusal : Int32) (a1 : Int32) : Option (Int32 × Int32) :=
  some (a1, 0)
set_option maxHeartbeats 4000000 in
set_option maxRecDepth 100000 in
theorem wX5_pass (E : zE) (q_this : Nat) (s_taped : Int32) (s_hasCache : Int32) (s_imaged : Int32) (s_refusal : Int32) (v_tape : Value) (v_plan : Value) (v_spare : Value) (v_teller : Value) (v_now : Value) (v_trial : Value) (v_past : Value) (v_images : Value) (a1 : Int32) (x : Int32 × Int32) (hf : fX5_pass s_refusal a1 = some x) (l : Launch) (sz : Nat) : zM l yX5_pass cX5_pass 2 (some .int) { frames := 0, cells := 0, slots := 0, locals := 0 } E [.ref q_this, .int a1] [(q_this, .inr (4, [v_tape, .int s_taped, v_plan, v_spare, .int s_hasCache, v_teller, v_now, v_trial, v_past, v_images, .int s_imaged, .int s_refusal]))] sz (some (.int x.1)) [(q_this, .inr (4, [v_tape, .int s_taped, v_plan, v_spare, .int s_hasCache, v_teller, v_now, v_trial, v_past, v_images, .int s_imaged, .int x.2]))] := by
  refine zEnter (by decide) (Nat.le_of_ble_eq_true rfl) ?_
  intro C hC hR
  change zC C E cX5_pass "PackedCache" 2 _ at hC
  unfold fX5_pass at hf
  refine j_sub (lv' := [(0, .ref q_this), (1, .int a1)]) [0, 1] rfl ?_
  refine j_aload_n (q := 1) hC dX5_pass_0 rfl rfl 0 rfl ?_
  refine j_iconst (q := 2) (v := 0) hC dX5_pass_1 rfl (by decide) ?_
  refine j_put (q := 5) (host := "") hC zcl_X5 0 11 (ws' := [(q_this, .inr (4, [v_tape, .int s_taped, v_plan, v_spare, .int s_hasCache, v_teller, v_now, v_trial, v_past, v_images, .int s_imaged, .int 0]))]) zw_253 ⟨rfl, rfl, by decide, rfl⟩ rfl rfl rfl (Nat.le_of_ble_eq_true rfl) rfl dX5_pass_2 rfl ?_
  refine j_iload_n (q := 6) hC dX5_pass_5 rfl rfl 1 rfl ?_
  have hx := Option.some.inj hf
  exact j_iret hC hR dX5_pass_6 (by rw [← hx]) (by rw [← hx])
noncomputable def fX5_refuse (s_refusal : Int32) (a1 : Int32) : Option (Int32 × Int32) :=
  some ((-1), a1)
set_option maxHeartbeats 4000000 in
set_option maxRecDepth 100000 in
theorem wX5_refuse (E : zE) (q_this : Nat) (s_taped : Int32) (s_hasCache : Int32) (s_imaged : Int32) (s_refusal : Int32) (v_tape : Value) (v_plan : Value) (v_spare : Value) (v_teller : Value) (v_now : Value) (v_trial : Value) (v_past : Value) (v_images : Value) (a1 : Int32) (x : Int32 × Int32) (hf : fX5_refuse s_refusal a1 = some x) (l : Launch) (sz : Nat) : zM l yX5_refuse cX5_refuse 2 (some .int) { frames := 0, cells := 0, slots := 0, locals := 0 } E [.ref q_this, .int a1] [(q_this, .inr (4, [v_tape, .int s_taped, v_plan, v_spare, .int s_hasCache, v_teller, v_now, v_trial, v_past, v_images, .int s_imaged, .int s_refusal]))] sz (some (.int x.1)) [(q_this, .inr (4, [v_tape, .int s_taped, v_plan, v_spare, .int s_hasCache, v_teller, v_now, v_trial, v_past, v_images, .int s_imaged, .int x.2]))] := by
  refine zEnter (by decide) (Nat.le_of_ble_eq_true rfl) ?_
  intro C hC hR
  change zC C E cX5_refuse "PackedCache" 2 _ at hC
  unfold fX5_refuse at hf
  refine j_sub (lv' := [(0, .ref q_this), (1, .int a1)]) [0, 1] rfl ?_
  refine j_aload_n (q := 1) hC dX5_refuse_0 rfl rfl 0 rfl ?_
  refine j_iload_n (q := 2) hC dX5_refuse_1 rfl rfl 1 rfl ?_
  refine j_put (q := 5) (host := "") hC zcl_X5 0 11 (ws' := [(q_this, .inr (4, [v_tape, .int s_taped, v_plan, v_spare, .int s_hasCache, v_teller, v_now, v_trial, v_past, v_images, .int s_imaged, .int a1]))]) zw_253 ⟨rfl, rfl, by decide, rfl⟩ rfl rfl rfl (Nat.le_of_ble_eq_true rfl) rfl dX5_refuse_2 rfl ?_
  refine j_iconst (q := 6) (v := (-1)) hC dX5_refuse_5 rfl (by decide) ?_
  have hx := Option.some.inj hf
  exact j_iret hC hR dX5_refuse_6 (by rw [← hx]) (by rw [← hx])
noncomputable def fX5_word (s_hasCache : Int32) (s_refusal : Int32) (s_now_words : (Nat → Int32)) (a1 : Int32) (a2 : Int32) : Option (Int32 × Int32) :=
  (fX5_isPlace s_hasCache a1 a2).bind fun x1 =>
    if x1 = 0 then ((fX5_refuse s_refusal 1).bind fun x6 =>
    some (x6.1, x6.2))
    else (zlet (a1 * 8 : Int32) fun x2 =>
    zlet (x2 + a2 : Int32) fun x3 =>
    zald s_now_words 256 x3 fun x4 =>
    (fX5_pass s_refusal x4).bind fun x5 =>
    some (x5.1, x5.2))
set_option maxHeartbeats 4000000 in
set_option maxRecDepth 100000 in
theorem wX5_word (E : zE) (q_this : Nat) (q_now : Nat) (q_now_words : Nat) (s_taped : Int32) (s_hasCache : Int32) (s_imaged : Int32) (s_refusal : Int32) (s_now_sets : Int32) (s_now_ways : Int32) (s_now_weighed : Int32) (s_now_plain : Int32) (s_now_clock : Int32) (s_now_hits : Int32) (s_now_victims : Int32) (s_now_backs : Int32) (s_now_words : (Nat → Int32)) (v_tape : Value) (v_plan : Value) (v_spare : Value) (v_teller : Value) (v_trial : Value) (v_past : Value) (v_images : Value) (v_now_memory : Value) (v_now_used : Value) (v_now_last : Value) (v_now_shape : Value) (v_now_dirty : Value) (a1 : Int32) (a2 : Int32) (x : Int32 × Int32) (hf : fX5_word s_hasCache s_refusal s_now_words a1 a2 = some x) (l : Launch) (sz : Nat) : zM l yX5_word cX5_word 3 (some .int) { frames := 2, cells := 0, slots := 0, locals := 43 } E [.ref q_this, .int a1, .int a2] [(q_this, .inr (4, [v_tape, .int s_taped, v_plan, v_spare, .int s_hasCache, v_teller, .ref q_now, v_trial, v_past, v_images, .int s_imaged, .int s_refusal])), (q_now, .inr (2, [.int s_now_sets, .int s_now_ways, .int s_now_weighed, .int s_now_plain, v_now_memory, .ref q_now_words, v_now_used, v_now_last, v_now_shape, v_now_dirty, .int s_now_clock, .int s_now_hits, .int s_now_victims, .int s_now_backs])), (q_now_words, .inl (E.2.1 0, 256, .inl s_now_words))] sz (some (.int x.1)) [(q_this, .inr (4, [v_tape, .int s_taped, v_plan, v_spare, .int s_hasCache, v_teller, .ref q_now, v_trial, v_past, v_images, .int s_imaged, .int x.2])), (q_now, .inr (2, [.int s_now_sets, .int s_now_ways, .int s_now_weighed, .int s_now_plain, v_now_memory, .ref q_now_words, v_now_used, v_now_last, v_now_shape, v_now_dirty, .int s_now_clock, .int s_now_hits, .int s_now_victims, .int s_now_backs])), (q_now_words, .inl (E.2.1 0, 256, .inl s_now_words))] := by
  refine zEnter (by decide) (Nat.le_of_ble_eq_true rfl) ?_
  intro C hC hR
  change zC C E cX5_word "PackedCache" 3 _ at hC
  unfold fX5_word at hf
  refine j_sub (lv' := [(0, .ref q_this), (1, .int a1), (2, .int a2)]) [0, 1, 2] rfl ?_
  refine j_aload_n (q := 1) hC dX5_word_0 rfl rfl 0 rfl ?_
  refine j_iload_n (q := 2) hC dX5_word_1 rfl rfl 1 rfl ?_
  refine j_iload_n (q := 3) hC dX5_word_2 rfl rfl 2 rfl ?_
  refine j_callV (q := 6) hC [.int a1, .int a2] [] (fun x1 : Int32 => some (.int x1)) (fun x1 => [(q_this, .inr (4, [v_tape, .int s_taped, v_plan, v_spare, .int s_hasCache, v_teller, .ref q_now, v_trial, v_past, v_images, .int s_imaged, .int s_refusal]))]) (fun x1 => [(q_this, .inr (4, [v_tape, .int s_taped, v_plan, v_spare, .int s_hasCache, v_teller, .ref q_now, v_trial, v_past, v_images, .int s_imaged, .int s_refusal])), (q_now, .inr (2, [.int s_now_sets, .int s_now_ways, .int s_now_weighed, .int s_now_plain, v_now_memory, .ref q_now_words, v_now_used, v_now_last, v_now_shape, v_now_dirty, .int s_now_clock, .int s_now_hits, .int s_now_victims, .int s_now_backs])), (q_now_words, .inl (E.2.1 0, 256, .inl s_now_words))]) (fun x1 => [.int x1]) [0] [1, 2] hf (fun x1 hx => wX5_isPlace E q_this s_taped s_hasCache s_imaged s_refusal (v_tape) (v_plan) (v_spare) (v_teller) (.ref q_now) (v_trial) (v_past) (v_images) a1 a2 x1  hx) zy_X5_isPlace zw_470 (by unfold zRm; decide) rfl rfl (fun _ => rfl) (N := 3) (by decide) (fun _ => ⟨rfl, rfl, rfl⟩) rfl rfl rfl (Nat.le_of_ble_eq_true rfl) dX5_word_3 rfl rfl (fun _ => rfl) (fun x1 hf => ?_)
  refine j_if_ne (tgt := 15) (q := 9) hC dX5_word_6 (by decide) rfl hf (fun _ hf => ?_) (fun _ hf => ?_)
  · refine j_aload_n (q := 16) hC dX5_word_15 rfl rfl 0 rfl ?_
    refine j_aload_n (q := 17) hC dX5_word_16 rfl rfl 0 rfl ?_
    refine j_get (q := 20) hC zcl_X5 0 6 zw_248 ⟨rfl, rfl, by decide⟩ rfl rfl dX5_word_17 rfl ?_
    refine j_getN (q := 23) hC zcl_X3 1 5 zn_172 ⟨rfl, rfl, by decide⟩ rfl rfl dX5_word_20 rfl ?_
    refine j_iload_n (q := 24) hC dX5_word_23 rfl rfl 1 rfl ?_
    refine j_bipush (q := 26) (v := 8) hC dX5_word_24 rfl (by decide) ?_
    refine j_imul (q := 27) hC dX5_word_26 rfl hf (fun x2 hf => ?_)
    refine j_iload_n (q := 28) hC dX5_word_27 rfl rfl 2 rfl ?_
    refine j_iadd (q := 29) hC dX5_word_28 rfl hf (fun x3 hf => ?_)
    refine j_iald (q := 30) hC 2 rfl dX5_word_29 rfl hf (fun x4 hf => ?_)
    refine j_callV (q := 33) hC [.int x4] [] (fun x5 : Int32 × Int32 => some (.int x5.1)) (fun x5 => [(q_this, .inr (4, [v_tape, .int s_taped, v_plan, v_spare, .int s_hasCache, v_teller, .ref q_now, v_trial, v_past, v_images, .int s_imaged, .int x5.2]))]) (fun x5 => [(q_this, .inr (4, [v_tape, .int s_taped, v_plan, v_spare, .int s_hasCache, v_teller, .ref q_now, v_trial, v_past, v_images, .int s_imaged, .int x5.2])), (q_now, .inr (2, [.int s_now_sets, .int s_now_ways, .int s_now_weighed, .int s_now_plain, v_now_memory, .ref q_now_words, v_now_used, v_now_last, v_now_shape, v_now_dirty, .int s_now_clock, .int s_now_hits, .int s_now_victims, .int s_now_backs])), (q_now_words, .inl (E.2.1 0, 256, .inl s_now_words))]) (fun x5 => [.int x5.1]) [0] [1, 2] hf (fun x5 hx => wX5_pass E q_this s_taped s_hasCache s_imaged s_refusal (v_tape) (v_plan) (v_spare) (v_teller) (.ref q_now) (v_trial) (v_past) (v_images) x4 x5  hx) zy_X5_pass zw_454 (by unfold zRm; decide) rfl rfl (fun _ => rfl) (N := 3) (by decide) (fun _ => ⟨rfl, rfl, rfl⟩) rfl rfl rfl (Nat.le_of_ble_eq_true rfl) dX5_word_30 rfl rfl (fun _ => rfl) (fun x5 hf => ?_)
    have hx := Option.some.inj hf
    exact j_iret hC hR dX5_word_33 (by rw [← hx]) (by rw [← hx])
  · refine j_aload_n (q := 10) hC dX5_word_9 rfl rfl 0 rfl ?_
    refine j_iconst (q := 11) (v := 1) hC dX5_word_10 rfl (by decide) ?_
    refine j_callV (q := 14) hC [.int 1] [] (fun x6 : Int32 × Int32 => some (.int x6.1)) (fun x6 => [(q_this, .inr (4, [v_tape, .int s_taped, v_plan, v_spare, .int s_hasCache, v_teller, .ref q_now, v_trial, v_past, v_images, .int s_imaged, .int x6.2]))]) (fun x6 => [(q_this, .inr (4, [v_tape, .int s_taped, v_plan, v_spare, .int s_hasCache, v_teller, .ref q_now, v_trial, v_past, v_images, .int s_imaged, .int x6.2])), (q_now, .inr (2, [.int s_now_sets, .int s_now_ways, .int s_now_weighed, .int s_now_plain, v_now_memory, .ref q_now_words, v_now_used, v_now_last, v_now_shape, v_now_dirty, .int s_now_clock, .int s_now_hits, .int s_now_victims, .int s_now_backs])), (q_now_words, .inl (E.2.1 0, 256, .inl s_now_words))]) (fun x6 => [.int x6.1]) [0] [1, 2] hf (fun x6 hx => wX5_refuse E q_this s_taped s_hasCache s_imaged s_refusal (v_tape) (v_plan) (v_spare) (v_teller) (.ref q_now) (v_trial) (v_past) (v_images) 1 x6  hx) zy_X5_refuse zw_291 (by unfold zRm; decide) rfl rfl (fun _ => rfl) (N := 3) (by decide) (fun _ => ⟨rfl, rfl, rfl⟩) rfl rfl rfl (Nat.le_of_ble_eq_true rfl) dX5_word_11 rfl rfl (fun _ => rfl) (fun x6 hf => ?_)
    have hx := Option.some.inj hf
    exact j_iret hC hR dX5_word_14 (by rw [← hx]) (by rw [← hx])
noncomputable def fX5_memory (s_hasCache : Int32) (s_refusal : Int32) (s_now_memory : (Nat → Int32)) (a1 : Int32) (a2 : Int32) : Option (Int32 × Int32) :=
  (fX5_isPlace s_hasCache a1 a2).bind fun x1 =>
    if x1 = 0 then ((fX5_refuse s_refusal 1).bind fun x6 =>
    some (x6.1, x6.2))
    else (zlet (a1 * 8 : Int32) fun x2 =>
    zlet (x2 + a2 : Int32) fun x3 =>
    zald s_now_memory 256 x3 fun x4 =>
    (fX5_pass s_refusal x4).bind fun x5 =>
    some (x5.1, x5.2))
set_option maxHeartbeats 4000000 in
set_option maxRecDepth 100000 in
theorem wX5_memory (E : zE) (q_this : Nat) (q_now : Nat) (q_now_memory : Nat) (s_taped : Int32) (s_hasCache : Int32) (s_imaged : Int32) (s_refusal : Int32) (s_now_sets : Int32) (s_now_ways : Int32) (s_now_weighed : Int32) (s_now_plain : Int32) (s_now_clock : Int32) (s_now_hits : Int32) (s_now_victims : Int32) (s_now_backs : Int32) (s_now_memory : (Nat → Int32)) (v_tape : Value) (v_plan : Value) (v_spare : Value) (v_teller : Value) (v_trial : Value) (v_past : Value) (v_images : Value) (v_now_words : Value) (v_now_used : Value) (v_now_last : Value) (v_now_shape : Value) (v_now_dirty : Value) (a1 : Int32) (a2 : Int32) (x : Int32 × Int32) (hf : fX5_memory s_hasCache s_refusal s_now_memory a1 a2 = some x) (l : Launch) (sz : Nat) : zM l yX5_memory cX5_memory 3 (some .int) { frames := 2, cells := 0, slots := 0, locals := 43 } E [.ref q_this, .int a1, .int a2] [(q_this, .inr (4, [v_tape, .int s_taped, v_plan, v_spare, .int s_hasCache, v_teller, .ref q_now, v_trial, v_past, v_images, .int s_imaged, .int s_refusal])), (q_now, .inr (2, [.int s_now_sets, .int s_now_ways, .int s_now_weighed, .int s_now_plain, .ref q_now_memory, v_now_words, v_now_used, v_now_last, v_now_shape, v_now_dirty, .int s_now_clock, .int s_now_hits, .int s_now_victims, .int s_now_backs])), (q_now_memory, .inl (E.2.1 0, 256, .inl s_now_memory))] sz (some (.int x.1)) [(q_this, .inr (4, [v_tape, .int s_taped, v_plan, v_spare, .int s_hasCache, v_teller, .ref q_now, v_trial, v_past, v_images, .int s_imaged, .int x.2])), (q_now, .inr (2, [.int s_now_sets, .int s_now_ways, .int s_now_weighed, .int s_now_plain, .ref q_now_memory, v_now_words, v_now_used, v_now_last, v_now_shape, v_now_dirty, .int s_now_clock, .int s_now_hits, .int s_now_victims, .int s_now_backs])), (q_now_memory, .inl (E.2.1 0, 256, .inl s_now_memory))] := by
  refine zEnter (by decide) (Nat.le_of_ble_eq_true rfl) ?_
  intro C hC hR
  change zC C E cX5_memory "PackedCache" 3 _ at hC
  unfold fX5_memory at hf
  refine j_sub (lv' := [(0, .ref q_this), (1, .int a1), (2, .int a2)]) [0, 1, 2] rfl ?_
  refine j_aload_n (q := 1) hC dX5_memory_0 rfl rfl 0 rfl ?_
  refine j_iload_n (q := 2) hC dX5_memory_1 rfl rfl 1 rfl ?_
  refine j_iload_n (q := 3) hC dX5_memory_2 rfl rfl 2 rfl ?_
  refine j_callV (q := 6) hC [.int a1, .int a2] [] (fun x1 : Int32 => some (.int x1)) (fun x1 => [(q_this, .inr (4, [v_tape, .int s_taped, v_plan, v_spare, .int s_hasCache, v_teller, .ref q_now, v_trial, v_past, v_images, .int s_imaged, .int s_refusal]))]) (fun x1 => [(q_this, .inr (4, [v_tape, .int s_taped, v_plan, v_spare, .int s_hasCache, v_teller, .ref q_now, v_trial, v_past, v_images, .int s_imaged, .int s_refusal])), (q_now, .inr (2, [.int s_now_sets, .int s_now_ways, .int s_now_weighed, .int s_now_plain, .ref q_now_memory, v_now_words, v_now_used, v_now_last, v_now_shape, v_now_dirty, .int s_now_clock, .int s_now_hits, .int s_now_victims, .int s_now_backs])), (q_now_memory, .inl (E.2.1 0, 256, .inl s_now_memory))]) (fun x1 => [.int x1]) [0] [1, 2] hf (fun x1 hx => wX5_isPlace E q_this s_taped s_hasCache s_imaged s_refusal (v_tape) (v_plan) (v_spare) (v_teller) (.ref q_now) (v_trial) (v_past) (v_images) a1 a2 x1  hx) zy_X5_isPlace zw_470 (by unfold zRm; decide) rfl rfl (fun _ => rfl) (N := 3) (by decide) (fun _ => ⟨rfl, rfl, rfl⟩) rfl rfl rfl (Nat.le_of_ble_eq_true rfl) dX5_memory_3 rfl rfl (fun _ => rfl) (fun x1 hf => ?_)
  refine j_if_ne (tgt := 15) (q := 9) hC dX5_memory_6 (by decide) rfl hf (fun _ hf => ?_) (fun _ hf => ?_)
  · refine j_aload_n (q := 16) hC dX5_memory_15 rfl rfl 0 rfl ?_
    refine j_aload_n (q := 17) hC dX5_memory_16 rfl rfl 0 rfl ?_
    refine j_get (q := 20) hC zcl_X5 0 6 zw_248 ⟨rfl, rfl, by decide⟩ rfl rfl dX5_memory_17 rfl ?_
    refine j_getN (q := 23) hC zcl_X3 1 4 zn_170 ⟨rfl, rfl, by decide⟩ rfl rfl dX5_memory_20 rfl ?_
    refine j_iload_n (q := 24) hC dX5_memory_23 rfl rfl 1 rfl ?_
    refine j_bipush (q := 26) (v := 8) hC dX5_memory_24 rfl (by decide) ?_
    refine j_imul (q := 27) hC dX5_memory_26 rfl hf (fun x2 hf => ?_)
    refine j_iload_n (q := 28) hC dX5_memory_27 rfl rfl 2 rfl ?_
    refine j_iadd (q := 29) hC dX5_memory_28 rfl hf (fun x3 hf => ?_)
    refine j_iald (q := 30) hC 2 rfl dX5_memory_29 rfl hf (fun x4 hf => ?_)
    refine j_callV (q := 33) hC [.int x4] [] (fun x5 : Int32 × Int32 => some (.int x5.1)) (fun x5 => [(q_this, .inr (4, [v_tape, .int s_taped, v_plan, v_spare, .int s_hasCache, v_teller, .ref q_now, v_trial, v_past, v_images, .int s_imaged, .int x5.2]))]) (fun x5 => [(q_this, .inr (4, [v_tape, .int s_taped, v_plan, v_spare, .int s_hasCache, v_teller, .ref q_now, v_trial, v_past, v_images, .int s_imaged, .int x5.2])), (q_now, .inr (2, [.int s_now_sets, .int s_now_ways, .int s_now_weighed, .int s_now_plain, .ref q_now_memory, v_now_words, v_now_used, v_now_last, v_now_shape, v_now_dirty, .int s_now_clock, .int s_now_hits, .int s_now_victims, .int s_now_backs])), (q_now_memory, .inl (E.2.1 0, 256, .inl s_now_memory))]) (fun x5 => [.int x5.1]) [0] [1, 2] hf (fun x5 hx => wX5_pass E q_this s_taped s_hasCache s_imaged s_refusal (v_tape) (v_plan) (v_spare) (v_teller) (.ref q_now) (v_trial) (v_past) (v_images) x4 x5  hx) zy_X5_pass zw_454 (by unfold zRm; decide) rfl rfl (fun _ => rfl) (N := 3) (by decide) (fun _ => ⟨rfl, rfl, rfl⟩) rfl rfl rfl (Nat.le_of_ble_eq_true rfl) dX5_memory_30 rfl rfl (fun _ => rfl) (fun x5 hf => ?_)
    have hx := Option.some.inj hf
    exact j_iret hC hR dX5_memory_33 (by rw [← hx]) (by rw [← hx])
  · refine j_aload_n (q := 10) hC dX5_memory_9 rfl rfl 0 rfl ?_
    refine j_iconst (q := 11) (v := 1) hC dX5_memory_10 rfl (by decide) ?_
    refine j_callV (q := 14) hC [.int 1] [] (fun x6 : Int32 × Int32 => some (.int x6.1)) (fun x6 => [(q_this, .inr (4, [v_tape, .int s_taped, v_plan, v_spare, .int s_hasCache, v_teller, .ref q_now, v_trial, v_past, v_images, .int s_imaged, .int x6.2]))]) (fun x6 => [(q_this, .inr (4, [v_tape, .int s_taped, v_plan, v_spare, .int s_hasCache, v_teller, .ref q_now, v_trial, v_past, v_images, .int s_imaged, .int x6.2])), (q_now, .inr (2, [.int s_now_sets, .int s_now_ways, .int s_now_weighed, .int s_now_plain, .ref q_now_memory, v_now_words, v_now_used, v_now_last, v_now_shape, v_now_dirty, .int s_now_clock, .int s_now_hits, .int s_now_victims, .int s_now_backs])), (q_now_memory, .inl (E.2.1 0, 256, .inl s_now_memory))]) (fun x6 => [.int x6.1]) [0] [1, 2] hf (fun x6 hx => wX5_refuse E q_this s_taped s_hasCache s_imaged s_refusal (v_tape) (v_plan) (v_spare) (v_teller) (.ref q_now) (v_trial) (v_past) (v_images) 1 x6  hx) zy_X5_refuse zw_291 (by unfold zRm; decide) rfl rfl (fun _ => rfl) (N := 3) (by decide) (fun _ => ⟨rfl, rfl, rfl⟩) rfl rfl rfl (Nat.le_of_ble_eq_true rfl) dX5_memory_11 rfl rfl (fun _ => rfl) (fun x6 hf => ?_)
    have hx := Option.some.inj hf
    exact j_iret hC hR dX5_memory_14 (by rw [← hx]) (by rw [← hx])
noncomputable def fX5_form (s_hasCache : Int32) (s_refusal : Int32) (s_now_words : (Nat → Int32)) (a1 : Int32) : Option (Int32 × Int32) :=
  (fX5_isLine s_hasCache a1).bind fun x1 =>
    if x1 = 0 then ((fX5_refuse s_refusal 1).bind fun x4 =>
    some (x4.1, x4.2))
    else ((fX2_shortest 256 s_now_words a1).bind fun x2 =>
    (fX5_pass s_refusal x2).bind fun x3 =>
    some (x3.1, x3.2))
set_option maxHeartbeats 4000000 in
set_option maxRecDepth 100000 in
theorem wX5_form (E : zE) (q_this : Nat) (q_now : Nat) (q_now_words : Nat) (s_taped : Int32) (s_hasCache : Int32) (s_imaged : Int32) (s_refusal : Int32) (s_now_sets : Int32) (s_now_ways : Int32) (s_now_weighed : Int32) (s_now_plain : Int32) (s_now_clock : Int32) (s_now_hits : Int32) (s_now_victims : Int32) (s_now_backs : Int32) (s_now_words : (Nat → Int32)) (v_tape : Value) (v_plan : Value) (v_spare : Value) (v_teller : Value) (v_trial : Value) (v_past : Value) (v_images : Value) (v_now_memory : Value) (v_now_used : Value) (v_now_last : Value) (v_now_shape : Value) (v_now_dirty : Value) (a1 : Int32) (x : Int32 × Int32) (hf : fX5_form s_hasCache s_refusal s_now_words a1 = some x) (l : Launch) (sz : Nat) : zM l yX5_form cX5_form 2 (some .int) { frames := 3, cells := 0, slots := 0, locals := 78 } E [.ref q_this, .int a1] [(q_this, .inr (4, [v_tape, .int s_taped, v_plan, v_spare, .int s_hasCache, v_teller, .ref q_now, v_trial, v_past, v_images, .int s_imaged, .int s_refusal])), (q_now, .inr (2, [.int s_now_sets, .int s_now_ways, .int s_now_weighed, .int s_now_plain, v_now_memory, .ref q_now_words, v_now_used, v_now_last, v_now_shape, v_now_dirty, .int s_now_clock, .int s_now_hits, .int s_now_victims, .int s_now_backs])), (q_now_words, .inl (E.2.1 0, 256, .inl s_now_words))] sz (some (.int x.1)) [(q_this, .inr (4, [v_tape, .int s_taped, v_plan, v_spare, .int s_hasCache, v_teller, .ref q_now, v_trial, v_past, v_images, .int s_imaged, .int x.2])), (q_now, .inr (2, [.int s_now_sets, .int s_now_ways, .int s_now_weighed, .int s_now_plain, v_now_memory, .ref q_now_words, v_now_used, v_now_last, v_now_shape, v_now_dirty, .int s_now_clock, .int s_now_hits, .int s_now_victims, .int s_now_backs])), (q_now_words, .inl (E.2.1 0, 256, .inl s_now_words))] := by
  refine zEnter (by decide) (Nat.le_of_ble_eq_true rfl) ?_
  intro C hC hR
  change zC C E cX5_form "PackedCache" 2 _ at hC
  unfold fX5_form at hf
  refine j_sub (lv' := [(0, .ref q_this), (1, .int a1)]) [0, 1] rfl ?_
  refine j_aload_n (q := 1) hC dX5_form_0 rfl rfl 0 rfl ?_
  refine j_iload_n (q := 2) hC dX5_form_1 rfl rfl 1 rfl ?_
  refine j_callV (q := 5) hC [.int a1] [] (fun x1 : Int32 => some (.int x1)) (fun x1 => [(q_this, .inr (4, [v_tape, .int s_taped, v_plan, v_spare, .int s_hasCache, v_teller, .ref q_now, v_trial, v_past, v_images, .int s_imaged, .int s_refusal]))]) (fun x1 => [(q_this, .inr (4, [v_tape, .int s_taped, v_plan, v_spare, .int s_hasCache, v_teller, .ref q_now, v_trial, v_past, v_images, .int s_imaged, .int s_refusal])), (q_now, .inr (2, [.int s_now_sets, .int s_now_ways, .int s_now_weighed, .int s_now_plain, v_now_memory, .ref q_now_words, v_now_used, v_now_last, v_now_shape, v_now_dirty, .int s_now_clock, .int s_now_hits, .int s_now_victims, .int s_now_backs])), (q_now_words, .inl (E.2.1 0, 256, .inl s_now_words))]) (fun x1 => [.int x1]) [0] [1, 2] hf (fun x1 hx => wX5_isLine E q_this s_taped s_hasCache s_imaged s_refusal (v_tape) (v_plan) (v_spare) (v_teller) (.ref q_now) (v_trial) (v_past) (v_images) a1 x1  hx) zy_X5_isLine zw_474 (by unfold zRm; decide) rfl rfl (fun _ => rfl) (N := 3) (by decide) (fun _ => ⟨rfl, rfl, rfl⟩) rfl rfl rfl (Nat.le_of_ble_eq_true rfl) dX5_form_2 rfl rfl (fun _ => rfl) (fun x1 hf => ?_)
  refine j_if_ne (tgt := 14) (q := 8) hC dX5_form_5 (by decide) rfl hf (fun _ hf => ?_) (fun _ hf => ?_)
  · refine j_aload_n (q := 15) hC dX5_form_14 rfl rfl 0 rfl ?_
    refine j_aload_n (q := 16) hC dX5_form_15 rfl rfl 0 rfl ?_
    refine j_get (q := 19) hC zcl_X5 0 6 zw_248 ⟨rfl, rfl, by decide⟩ rfl rfl dX5_form_16 rfl ?_
    refine j_getN (q := 22) hC zcl_X3 1 5 zn_172 ⟨rfl, rfl, by decide⟩ rfl rfl dX5_form_19 rfl ?_
    refine j_iload_n (q := 23) hC dX5_form_22 rfl rfl 1 rfl ?_
    refine j_callS (q := 26) hC [.ref q_now_words, .int a1] [.ref q_this] (fun x2 : Int32 => some (.int x2)) (fun x2 => [(q_now_words, .inl (E.2.1 0, 256, .inl s_now_words))]) (fun x2 => [(q_this, .inr (4, [v_tape, .int s_taped, v_plan, v_spare, .int s_hasCache, v_teller, .ref q_now, v_trial, v_past, v_images, .int s_imaged, .int s_refusal])), (q_now, .inr (2, [.int s_now_sets, .int s_now_ways, .int s_now_weighed, .int s_now_plain, v_now_memory, .ref q_now_words, v_now_used, v_now_last, v_now_shape, v_now_dirty, .int s_now_clock, .int s_now_hits, .int s_now_victims, .int s_now_backs])), (q_now_words, .inl (E.2.1 0, 256, .inl s_now_words))]) (fun x2 => [.int x2, .ref q_this]) [2] [0, 1] hf (fun x2 hx => wX2_shortest E 256 q_now_words s_now_words a1 x2  hx) zy_X2_shortest zw_486 (by unfold zRm; decide) rfl rfl (fun _ => rfl) (N := 3) (by decide) (fun _ => ⟨rfl, rfl, rfl⟩) rfl (Nat.le_of_ble_eq_true rfl) dX5_form_23 rfl rfl (fun _ => rfl) (fun x2 hf => ?_)
    refine j_callV (q := 29) hC [.int x2] [] (fun x3 : Int32 × Int32 => some (.int x3.1)) (fun x3 => [(q_this, .inr (4, [v_tape, .int s_taped, v_plan, v_spare, .int s_hasCache, v_teller, .ref q_now, v_trial, v_past, v_images, .int s_imaged, .int x3.2]))]) (fun x3 => [(q_this, .inr (4, [v_tape, .int s_taped, v_plan, v_spare, .int s_hasCache, v_teller, .ref q_now, v_trial, v_past, v_images, .int s_imaged, .int x3.2])), (q_now, .inr (2, [.int s_now_sets, .int s_now_ways, .int s_now_weighed, .int s_now_plain, v_now_memory, .ref q_now_words, v_now_used, v_now_last, v_now_shape, v_now_dirty, .int s_now_clock, .int s_now_hits, .int s_now_victims, .int s_now_backs])), (q_now_words, .inl (E.2.1 0, 256, .inl s_now_words))]) (fun x3 => [.int x3.1]) [0] [1, 2] hf (fun x3 hx => wX5_pass E q_this s_taped s_hasCache s_imaged s_refusal (v_tape) (v_plan) (v_spare) (v_teller) (.ref q_now) (v_trial) (v_past) (v_images) x2 x3  hx) zy_X5_pass zw_454 (by unfold zRm; decide) rfl rfl (fun _ => rfl) (N := 3) (by decide) (fun _ => ⟨rfl, rfl, rfl⟩) rfl rfl rfl (Nat.le_of_ble_eq_true rfl) dX5_form_26 rfl rfl (fun _ => rfl) (fun x3 hf => ?_)
    have hx := Option.some.inj hf
    exact j_iret hC hR dX5_form_29 (by rw [← hx]) (by rw [← hx])
  · refine j_aload_n (q := 9) hC dX5_form_8 rfl rfl 0 rfl ?_
    refine j_iconst (q := 10) (v := 1) hC dX5_form_9 rfl (by decide) ?_
    refine j_callV (q := 13) hC [.int 1] [] (fun x4 : Int32 × Int32 => some (.int x4.1)) (fun x4 => [(q_this, .inr (4, [v_tape, .int s_taped, v_plan, v_spare, .int s_hasCache, v_teller, .ref q_now, v_trial, v_past, v_images, .int s_imaged, .int x4.2]))]) (fun x4 => [(q_this, .inr (4, [v_tape, .int s_taped, v_plan, v_spare, .int s_hasCache, v_teller, .ref q_now, v_trial, v_past, v_images, .int s_imaged, .int x4.2])), (q_now, .inr (2, [.int s_now_sets, .int s_now_ways, .int s_now_weighed, .int s_now_plain, v_now_memory, .ref q_now_words, v_now_used, v_now_last, v_now_shape, v_now_dirty, .int s_now_clock, .int s_now_hits, .int s_now_victims, .int s_now_backs])), (q_now_words, .inl (E.2.1 0, 256, .inl s_now_words))]) (fun x4 => [.int x4.1]) [0] [1, 2] hf (fun x4 hx => wX5_refuse E q_this s_taped s_hasCache s_imaged s_refusal (v_tape) (v_plan) (v_spare) (v_teller) (.ref q_now) (v_trial) (v_past) (v_images) 1 x4  hx) zy_X5_refuse zw_291 (by unfold zRm; decide) rfl rfl (fun _ => rfl) (N := 3) (by decide) (fun _ => ⟨rfl, rfl, rfl⟩) rfl rfl rfl (Nat.le_of_ble_eq_true rfl) dX5_form_10 rfl rfl (fun _ => rfl) (fun x4 hf => ?_)
    have hx := Option.some.inj hf
    exact j_iret hC hR dX5_form_13 (by rw [← hx]) (by rw [← hx])
noncomputable def fX5_isForm (a0 : Int32) : Option (Int32) :=
  if a0 < 0 then (some 0)
    else (if 7 < a0 then (some 0)
    else (some 1))
set_option maxHeartbeats 4000000 in
set_option maxRecDepth 100000 in
theorem wX5_isForm (E : zE) (a0 : Int32) (x : Int32) (hf : fX5_isForm a0 = some x) (l : Launch) (sz : Nat) : zM l yX5_isForm cX5_isForm 1 (some .boolean) { frames := 0, cells := 0, slots := 0, locals := 0 } E [.int a0] [] sz (some (.int x)) [] := by
  refine zEnter (by decide) (Nat.le_of_ble_eq_true rfl) ?_
  intro C hC hR
  change zC C E cX5_isForm "PackedCache" 1 _ at hC
  unfold fX5_isForm at hf
  refine j_sub (lv' := [(0, .int a0)]) [0] rfl ?_
  refine j_iload_n (q := 1) hC dX5_isForm_0 rfl rfl 0 rfl ?_
  refine j_if_lt (tgt := 14) (q := 4) hC dX5_isForm_1 (by decide) rfl hf (fun _ hf => ?_) (fun _ hf => ?_)
  · refine j_iconst (q := 15) (v := 0) hC dX5_isForm_14 rfl (by decide) ?_
    have hx := Option.some.inj hf
    exact j_zret hC hR rfl dX5_isForm_15 (by rw [← hx]) rfl
  · refine j_iload_n (q := 5) hC dX5_isForm_4 rfl rfl 0 rfl ?_
    refine j_bipush (q := 7) (v := 7) hC dX5_isForm_5 rfl (by decide) ?_
    refine j_icmp_gt (tgt := 14) (q := 10) hC dX5_isForm_7 (by decide) rfl hf (fun _ hf => ?_) (fun _ hf => ?_)
    · refine j_iconst (q := 15) (v := 0) hC dX5_isForm_14 rfl (by decide) ?_
      have hx := Option.some.inj hf
      exact j_zret hC hR rfl dX5_isForm_15 (by rw [← hx]) rfl
    · refine j_iconst (q := 11) (v := 1) hC dX5_isForm_10 rfl (by decide) ?_
      refine j_goto (tgt := 15) hC dX5_isForm_11 (by decide) ?_
      have hx := Option.some.inj hf
      exact j_zret hC hR rfl dX5_isForm_15 (by rw [← hx]) rfl
noncomputable def fX5_bytes_53 (s_hasCache : Int32) (s_now_words : (Nat → Int32))  (t0 : Int32) (s_refusal : Int32) : Option (Int32 × Int32) :=
  (fX5_pass s_refusal t0).bind fun x1 =>
    some (x1.1, x1.2)
noncomputable def fX5_bytes (s_hasCache : Int32) (s_refusal : Int32) (s_now_words : (Nat → Int32)) (a1 : Int32) (a2 : Int32) : Option (Int32 × Int32) :=
  (fX5_isLine s_hasCache a1).bind fun x1 =>
    if x1 = 0 then ((fX5_refuse s_refusal 1).bind fun x6 =>
    some (x6.1, x6.2))
    else ((fX5_isForm a2).bind fun x2 =>
    if x2 = 0 then ((fX5_refuse s_refusal 2).bind fun x5 =>
    some (x5.1, x5.2))
    else ((fX2_holds 256 s_now_words a1 a2).bind fun x3 =>
    if x3 = 0 then (fX5_bytes_53 s_hasCache s_now_words  (-2) s_refusal)
    else (zald (zSv 0) 8 a2 fun x4 =>
    fX5_bytes_53 s_hasCache s_now_words  x4 s_refusal)))
set_option maxHeartbeats 4000000 in
set_option maxRecDepth 100000 in
theorem wX5_bytes (E : zE) (q_this : Nat) (q_now : Nat) (q_now_words : Nat) (s_taped : Int32) (s_hasCache : Int32) (s_imaged : Int32) (s_refusal : Int32) (s_now_sets : Int32) (s_now_ways : Int32) (s_now_weighed : Int32) (s_now_plain : Int32) (s_now_clock : Int32) (s_now_hits : Int32) (s_now_victims : Int32) (s_now_backs : Int32) (s_now_words : (Nat → Int32)) (v_tape : Value) (v_plan : Value) (v_spare : Value) (v_teller : Value) (v_trial : Value) (v_past : Value) (v_images : Value) (v_now_memory : Value) (v_now_used : Value) (v_now_last : Value) (v_now_shape : Value) (v_now_dirty : Value) (a1 : Int32) (a2 : Int32) (x : Int32 × Int32) (hf : fX5_bytes s_hasCache s_refusal s_now_words a1 a2 = some x) (l : Launch) (sz : Nat) : zM l yX5_bytes cX5_bytes 3 (some .int) { frames := 2, cells := 0, slots := 0, locals := 56 } E [.ref q_this, .int a1, .int a2] [(q_this, .inr (4, [v_tape, .int s_taped, v_plan, v_spare, .int s_hasCache, v_teller, .ref q_now, v_trial, v_past, v_images, .int s_imaged, .int s_refusal])), (q_now, .inr (2, [.int s_now_sets, .int s_now_ways, .int s_now_weighed, .int s_now_plain, v_now_memory, .ref q_now_words, v_now_used, v_now_last, v_now_shape, v_now_dirty, .int s_now_clock, .int s_now_hits, .int s_now_victims, .int s_now_backs])), (q_now_words, .inl (E.2.1 0, 256, .inl s_now_words))] sz (some (.int x.1)) [(q_this, .inr (4, [v_tape, .int s_taped, v_plan, v_spare, .int s_hasCache, v_teller, .ref q_now, v_trial, v_past, v_images, .int s_imaged, .int x.2])), (q_now, .inr (2, [.int s_now_sets, .int s_now_ways, .int s_now_weighed, .int s_now_plain, v_now_memory, .ref q_now_words, v_now_used, v_now_last, v_now_shape, v_now_dirty, .int s_now_clock, .int s_now_hits, .int s_now_victims, .int s_now_backs])), (q_now_words, .inl (E.2.1 0, 256, .inl s_now_words))] := by
  refine zEnter (by decide) (Nat.le_of_ble_eq_true rfl) ?_
  intro C hC hR
  change zC C E cX5_bytes "PackedCache" 3 _ at hC
  have B53 : ∀ (t0 : Int32) (s_refusal : Int32), fX5_bytes_53 s_hasCache s_now_words  t0 s_refusal = some x → J C 0 0 [(q_this, .inr (4, [v_tape, .int s_taped, v_plan, v_spare, .int s_hasCache, v_teller, .ref q_now, v_trial, v_past, v_images, .int s_imaged, .int s_refusal])), (q_now, .inr (2, [.int s_now_sets, .int s_now_ways, .int s_now_weighed, .int s_now_plain, v_now_memory, .ref q_now_words, v_now_used, v_now_last, v_now_shape, v_now_dirty, .int s_now_clock, .int s_now_hits, .int s_now_victims, .int s_now_backs])), (q_now_words, .inl (E.2.1 0, 256, .inl s_now_words))] [] 53 [.int t0, .ref q_this] := by
    intro  t0 s_refusal hf
    unfold fX5_bytes_53 at hf
    refine j_callV (q := 56) hC [.int t0] [] (fun x1 : Int32 × Int32 => some (.int x1.1)) (fun x1 => [(q_this, .inr (4, [v_tape, .int s_taped, v_plan, v_spare, .int s_hasCache, v_teller, .ref q_now, v_trial, v_past, v_images, .int s_imaged, .int x1.2]))]) (fun x1 => [(q_this, .inr (4, [v_tape, .int s_taped, v_plan, v_spare, .int s_hasCache, v_teller, .ref q_now, v_trial, v_past, v_images, .int s_imaged, .int x1.2])), (q_now, .inr (2, [.int s_now_sets, .int s_now_ways, .int s_now_weighed, .int s_now_plain, v_now_memory, .ref q_now_words, v_now_used, v_now_last, v_now_shape, v_now_dirty, .int s_now_clock, .int s_now_hits, .int s_now_victims, .int s_now_backs])), (q_now_words, .inl (E.2.1 0, 256, .inl s_now_words))]) (fun x1 => [.int x1.1]) [0] [1, 2] hf (fun x1 hx => wX5_pass E q_this s_taped s_hasCache s_imaged s_refusal (v_tape) (v_plan) (v_spare) (v_teller) (.ref q_now) (v_trial) (v_past) (v_images) t0 x1  hx) zy_X5_pass zw_454 (by unfold zRm; decide) rfl rfl (fun _ => rfl) (N := 3) (by decide) (fun _ => ⟨rfl, rfl, rfl⟩) rfl rfl rfl (Nat.le_of_ble_eq_true rfl) dX5_bytes_53 rfl rfl (fun _ => rfl) (fun x1 hf => ?_)
    have hx := Option.some.inj hf
    exact j_iret hC hR dX5_bytes_56 (by rw [← hx]) (by rw [← hx])
  unfold fX5_bytes at hf
  refine j_sub (lv' := [(0, .ref q_this), (1, .int a1), (2, .int a2)]) [0, 1, 2] rfl ?_
  refine j_aload_n (q := 1) hC dX5_bytes_0 rfl rfl 0 rfl ?_
  refine j_iload_n (q := 2) hC dX5_bytes_1 rfl rfl 1 rfl ?_
  refine j_callV (q := 5) hC [.int a1] [] (fun x1 : Int32 => some (.int x1)) (fun x1 => [(q_this, .inr (4, [v_tape, .int s_taped, v_plan, v_spare, .int s_hasCache, v_teller, .ref q_now, v_trial, v_past, v_images, .int s_imaged, .int s_refusal]))]) (fun x1 => [(q_this, .inr (4, [v_tape, .int s_taped, v_plan, v_spare, .int s_hasCache, v_teller, .ref q_now, v_trial, v_past, v_images, .int s_imaged, .int s_refusal])), (q_now, .inr (2, [.int s_now_sets, .int s_now_ways, .int s_now_weighed, .int s_now_plain, v_now_memory, .ref q_now_words, v_now_used, v_now_last, v_now_shape, v_now_dirty, .int s_now_clock, .int s_now_hits, .int s_now_victims, .int s_now_backs])), (q_now_words, .inl (E.2.1 0, 256, .inl s_now_words))]) (fun x1 => [.int x1]) [0] [1, 2] hf (fun x1 hx => wX5_isLine E q_this s_taped s_hasCache s_imaged s_refusal (v_tape) (v_plan) (v_spare) (v_teller) (.ref q_now) (v_trial) (v_past) (v_images) a1 x1  hx) zy_X5_isLine zw_474 (by unfold zRm; decide) rfl rfl (fun _ => rfl) (N := 3) (by decide) (fun _ => ⟨rfl, rfl, rfl⟩) rfl rfl rfl (Nat.le_of_ble_eq_true rfl) dX5_bytes_2 rfl rfl (fun _ => rfl) (fun x1 hf => ?_)
  refine j_if_ne (tgt := 14) (q := 8) hC dX5_bytes_5 (by decide) rfl hf (fun _ hf => ?_) (fun _ hf => ?_)
  · refine j_iload_n (q := 15) hC dX5_bytes_14 rfl rfl 2 rfl ?_
    refine j_callS (q := 18) hC [.int a2] [] (fun x2 : Int32 => some (.int x2)) (fun x2 => []) (fun x2 => [(q_this, .inr (4, [v_tape, .int s_taped, v_plan, v_spare, .int s_hasCache, v_teller, .ref q_now, v_trial, v_past, v_images, .int s_imaged, .int s_refusal])), (q_now, .inr (2, [.int s_now_sets, .int s_now_ways, .int s_now_weighed, .int s_now_plain, v_now_memory, .ref q_now_words, v_now_used, v_now_last, v_now_shape, v_now_dirty, .int s_now_clock, .int s_now_hits, .int s_now_victims, .int s_now_backs])), (q_now_words, .inl (E.2.1 0, 256, .inl s_now_words))]) (fun x2 => [.int x2]) [] [0, 1, 2] hf (fun x2 hx => wX5_isForm E a2 x2  hx) zy_X5_isForm zw_512 (by unfold zRm; decide) rfl rfl (fun _ => rfl) (N := 3) (by decide) (fun _ => ⟨rfl, rfl, rfl⟩) rfl (Nat.le_of_ble_eq_true rfl) dX5_bytes_15 rfl rfl (fun _ => rfl) (fun x2 hf => ?_)
    refine j_if_ne (tgt := 27) (q := 21) hC dX5_bytes_18 (by decide) rfl hf (fun _ hf => ?_) (fun _ hf => ?_)
    · refine j_aload_n (q := 28) hC dX5_bytes_27 rfl rfl 0 rfl ?_
      refine j_aload_n (q := 29) hC dX5_bytes_28 rfl rfl 0 rfl ?_
      refine j_get (q := 32) hC zcl_X5 0 6 zw_248 ⟨rfl, rfl, by decide⟩ rfl rfl dX5_bytes_29 rfl ?_
      refine j_getN (q := 35) hC zcl_X3 1 5 zn_172 ⟨rfl, rfl, by decide⟩ rfl rfl dX5_bytes_32 rfl ?_
      refine j_iload_n (q := 36) hC dX5_bytes_35 rfl rfl 1 rfl ?_
      refine j_iload_n (q := 37) hC dX5_bytes_36 rfl rfl 2 rfl ?_
      refine j_callS (q := 40) hC [.ref q_now_words, .int a1, .int a2] [.ref q_this] (fun x3 : Int32 => some (.int x3)) (fun x3 => [(q_now_words, .inl (E.2.1 0, 256, .inl s_now_words))]) (fun x3 => [(q_this, .inr (4, [v_tape, .int s_taped, v_plan, v_spare, .int s_hasCache, v_teller, .ref q_now, v_trial, v_past, v_images, .int s_imaged, .int s_refusal])), (q_now, .inr (2, [.int s_now_sets, .int s_now_ways, .int s_now_weighed, .int s_now_plain, v_now_memory, .ref q_now_words, v_now_used, v_now_last, v_now_shape, v_now_dirty, .int s_now_clock, .int s_now_hits, .int s_now_victims, .int s_now_backs])), (q_now_words, .inl (E.2.1 0, 256, .inl s_now_words))]) (fun x3 => [.int x3, .ref q_this]) [2] [0, 1] hf (fun x3 hx => wX2_holds E 256 q_now_words s_now_words a1 a2 x3  hx) zy_X2_holds zw_515 (by unfold zRm; decide) rfl rfl (fun _ => rfl) (N := 3) (by decide) (fun _ => ⟨rfl, rfl, rfl⟩) rfl (Nat.le_of_ble_eq_true rfl) dX5_bytes_37 rfl rfl (fun _ => rfl) (fun x3 hf => ?_)
      refine j_if_eq (tgt := 51) (q := 43) hC dX5_bytes_40 (by decide) rfl hf (fun _ hf => ?_) (fun _ hf => ?_)
      · refine j_bipush (q := 53) (v := (-2)) hC dX5_bytes_51 rfl (by decide) ?_
        refine j_sub (lv' := []) [] rfl ?_
        exact B53  (-2) s_refusal hf
      · refine j_gets (q := 46) hC 0 (by decide) zw_516 dX5_bytes_43 rfl ?_
        refine j_iload_n (q := 47) hC dX5_bytes_46 rfl rfl 2 rfl ?_
        refine j_tld (q := 48) hC 0 (by decide) dX5_bytes_47 rfl hf (fun x4 hf => ?_)
        refine j_goto (tgt := 53) hC dX5_bytes_48 (by decide) ?_
        refine j_sub (lv' := []) [] rfl ?_
        exact B53  x4 s_refusal hf
    · refine j_aload_n (q := 22) hC dX5_bytes_21 rfl rfl 0 rfl ?_
      refine j_iconst (q := 23) (v := 2) hC dX5_bytes_22 rfl (by decide) ?_
      refine j_callV (q := 26) hC [.int 2] [] (fun x5 : Int32 × Int32 => some (.int x5.1)) (fun x5 => [(q_this, .inr (4, [v_tape, .int s_taped, v_plan, v_spare, .int s_hasCache, v_teller, .ref q_now, v_trial, v_past, v_images, .int s_imaged, .int x5.2]))]) (fun x5 => [(q_this, .inr (4, [v_tape, .int s_taped, v_plan, v_spare, .int s_hasCache, v_teller, .ref q_now, v_trial, v_past, v_images, .int s_imaged, .int x5.2])), (q_now, .inr (2, [.int s_now_sets, .int s_now_ways, .int s_now_weighed, .int s_now_plain, v_now_memory, .ref q_now_words, v_now_used, v_now_last, v_now_shape, v_now_dirty, .int s_now_clock, .int s_now_hits, .int s_now_victims, .int s_now_backs])), (q_now_words, .inl (E.2.1 0, 256, .inl s_now_words))]) (fun x5 => [.int x5.1]) [0] [1, 2] hf (fun x5 hx => wX5_refuse E q_this s_taped s_hasCache s_imaged s_refusal (v_tape) (v_plan) (v_spare) (v_teller) (.ref q_now) (v_trial) (v_past) (v_images) 2 x5  hx) zy_X5_refuse zw_291 (by unfold zRm; decide) rfl rfl (fun _ => rfl) (N := 3) (by decide) (fun _ => ⟨rfl, rfl, rfl⟩) rfl rfl rfl (Nat.le_of_ble_eq_true rfl) dX5_bytes_23 rfl rfl (fun _ => rfl) (fun x5 hf => ?_)
      have hx := Option.some.inj hf
      exact j_iret hC hR dX5_bytes_26 (by rw [← hx]) (by rw [← hx])
  · refine j_aload_n (q := 9) hC dX5_bytes_8 rfl rfl 0 rfl ?_
    refine j_iconst (q := 10) (v := 1) hC dX5_bytes_9 rfl (by decide) ?_
    refine j_callV (q := 13) hC [.int 1] [] (fun x6 : Int32 × Int32 => some (.int x6.1)) (fun x6 => [(q_this, .inr (4, [v_tape, .int s_taped, v_plan, v_spare, .int s_hasCache, v_teller, .ref q_now, v_trial, v_past, v_images, .int s_imaged, .int x6.2]))]) (fun x6 => [(q_this, .inr (4, [v_tape, .int s_taped, v_plan, v_spare, .int s_hasCache, v_teller, .ref q_now, v_trial, v_past, v_images, .int s_imaged, .int x6.2])), (q_now, .inr (2, [.int s_now_sets, .int s_now_ways, .int s_now_weighed, .int s_now_plain, v_now_memory, .ref q_now_words, v_now_used, v_now_last, v_now_shape, v_now_dirty, .int s_now_clock, .int s_now_hits, .int s_now_victims, .int s_now_backs])), (q_now_words, .inl (E.2.1 0, 256, .inl s_now_words))]) (fun x6 => [.int x6.1]) [0] [1, 2] hf (fun x6 hx => wX5_refuse E q_this s_taped s_hasCache s_imaged s_refusal (v_tape) (v_plan) (v_spare) (v_teller) (.ref q_now) (v_trial) (v_past) (v_images) 1 x6  hx) zy_X5_refuse zw_291 (by unfold zRm; decide) rfl rfl (fun _ => rfl) (N := 3) (by decide) (fun _ => ⟨rfl, rfl, rfl⟩) rfl rfl rfl (Nat.le_of_ble_eq_true rfl) dX5_bytes_10 rfl rfl (fun _ => rfl) (fun x6 hf => ?_)
    have hx := Option.some.inj hf
    exact j_iret hC hR dX5_bytes_13 (by rw [← hx]) (by rw [← hx])
noncomputable def fX5_forms_18 (s_hasCache : Int32) (s_now_words : (Nat → Int32))  : Nat → Int32 → Int32 → Int32 → Int32 → Option (Int32 × Int32)
  | 0, _, _, _, _ => none
  | m + 1, b1, b2, b3, s_refusal =>
    if 7 < b3 then ((fX5_pass s_refusal b2).bind fun x1 =>
    some (x1.1, x1.2))
    else ((fX2_holds 256 s_now_words b1 b3).bind fun x2 =>
    if x2 = 0 then (zlet (b3 + 1) fun x3 =>
    fX5_forms_18 s_hasCache s_now_words  m b1 b2 x3 s_refusal)
    else (zlet (b2 + 1) fun x4 =>
    zlet (b3 + 1) fun x5 =>
    fX5_forms_18 s_hasCache s_now_words  m b1 x4 x5 s_refusal))
noncomputable def fX5_forms (s_hasCache : Int32) (s_refusal : Int32) (s_now_words : (Nat → Int32)) (a1 : Int32) : Option (Int32 × Int32) :=
  (fX5_isLine s_hasCache a1).bind fun x1 =>
    if x1 = 0 then ((fX5_refuse s_refusal 1).bind fun x2 =>
    some (x2.1, x2.2))
    else (fX5_forms_18 s_hasCache s_now_words  zF a1 0 0 s_refusal)
set_option maxHeartbeats 4000000 in
set_option maxRecDepth 100000 in
theorem wX5_forms (E : zE) (q_this : Nat) (q_now : Nat) (q_now_words : Nat) (s_taped : Int32) (s_hasCache : Int32) (s_imaged : Int32) (s_refusal : Int32) (s_now_sets : Int32) (s_now_ways : Int32) (s_now_weighed : Int32) (s_now_plain : Int32) (s_now_clock : Int32) (s_now_hits : Int32) (s_now_victims : Int32) (s_now_backs : Int32) (s_now_words : (Nat → Int32)) (v_tape : Value) (v_plan : Value) (v_spare : Value) (v_teller : Value) (v_trial : Value) (v_past : Value) (v_images : Value) (v_now_memory : Value) (v_now_used : Value) (v_now_last : Value) (v_now_shape : Value) (v_now_dirty : Value) (a1 : Int32) (x : Int32 × Int32) (hf : fX5_forms s_hasCache s_refusal s_now_words a1 = some x) (l : Launch) (sz : Nat) : zM l yX5_forms cX5_forms 4 (some .int) { frames := 2, cells := 0, slots := 0, locals := 56 } E [.ref q_this, .int a1] [(q_this, .inr (4, [v_tape, .int s_taped, v_plan, v_spare, .int s_hasCache, v_teller, .ref q_now, v_trial, v_past, v_images, .int s_imaged, .int s_refusal])), (q_now, .inr (2, [.int s_now_sets, .int s_now_ways, .int s_now_weighed, .int s_now_plain, v_now_memory, .ref q_now_words, v_now_used, v_now_last, v_now_shape, v_now_dirty, .int s_now_clock, .int s_now_hits, .int s_now_victims, .int s_now_backs])), (q_now_words, .inl (E.2.1 0, 256, .inl s_now_words))] sz (some (.int x.1)) [(q_this, .inr (4, [v_tape, .int s_taped, v_plan, v_spare, .int s_hasCache, v_teller, .ref q_now, v_trial, v_past, v_images, .int s_imaged, .int x.2])), (q_now, .inr (2, [.int s_now_sets, .int s_now_ways, .int s_now_weighed, .int s_now_plain, v_now_memory, .ref q_now_words, v_now_used, v_now_last, v_now_shape, v_now_dirty, .int s_now_clock, .int s_now_hits, .int s_now_victims, .int s_now_backs])), (q_now_words, .inl (E.2.1 0, 256, .inl s_now_words))] := by
  refine zEnter (by decide) (Nat.le_of_ble_eq_true rfl) ?_
  intro C hC hR
  change zC C E cX5_forms "PackedCache" 4 _ at hC
  have B18 : ∀ (N : Nat), ∀ (b1 : Int32) (b2 : Int32) (b3 : Int32) (s_refusal : Int32), fX5_forms_18 s_hasCache s_now_words  N b1 b2 b3 s_refusal = some x → J C 0 0 [(q_this, .inr (4, [v_tape, .int s_taped, v_plan, v_spare, .int s_hasCache, v_teller, .ref q_now, v_trial, v_past, v_images, .int s_imaged, .int s_refusal])), (q_now, .inr (2, [.int s_now_sets, .int s_now_ways, .int s_now_weighed, .int s_now_plain, v_now_memory, .ref q_now_words, v_now_used, v_now_last, v_now_shape, v_now_dirty, .int s_now_clock, .int s_now_hits, .int s_now_victims, .int s_now_backs])), (q_now_words, .inl (E.2.1 0, 256, .inl s_now_words))] [(0, .ref q_this), (1, .int b1), (2, .int b2), (3, .int b3)] 18 [] := by
    intro  N
    induction N with
    | zero =>
      intro b1 b2 b3 s_refusal hf
      rw [fX5_forms_18] at hf
      cases hf
    | succ m ih =>
      intro b1 b2 b3 s_refusal hf
      rw [fX5_forms_18] at hf
      refine j_iload_n (q := 19) hC dX5_forms_18 rfl rfl 3 rfl ?_
      refine j_bipush (q := 21) (v := 7) hC dX5_forms_19 rfl (by decide) ?_
      refine j_icmp_gt (tgt := 48) (q := 24) hC dX5_forms_21 (by decide) rfl hf (fun _ hf => ?_) (fun _ hf => ?_)
      · refine j_aload_n (q := 49) hC dX5_forms_48 rfl rfl 0 rfl ?_
        refine j_iload_n (q := 50) hC dX5_forms_49 rfl rfl 2 rfl ?_
        refine j_callV (q := 53) hC [.int b2] [] (fun x1 : Int32 × Int32 => some (.int x1.1)) (fun x1 => [(q_this, .inr (4, [v_tape, .int s_taped, v_plan, v_spare, .int s_hasCache, v_teller, .ref q_now, v_trial, v_past, v_images, .int s_imaged, .int x1.2]))]) (fun x1 => [(q_this, .inr (4, [v_tape, .int s_taped, v_plan, v_spare, .int s_hasCache, v_teller, .ref q_now, v_trial, v_past, v_images, .int s_imaged, .int x1.2])), (q_now, .inr (2, [.int s_now_sets, .int s_now_ways, .int s_now_weighed, .int s_now_plain, v_now_memory, .ref q_now_words, v_now_used, v_now_last, v_now_shape, v_now_dirty, .int s_now_clock, .int s_now_hits, .int s_now_victims, .int s_now_backs])), (q_now_words, .inl (E.2.1 0, 256, .inl s_now_words))]) (fun x1 => [.int x1.1]) [0] [1, 2] hf (fun x1 hx => wX5_pass E q_this s_taped s_hasCache s_imaged s_refusal (v_tape) (v_plan) (v_spare) (v_teller) (.ref q_now) (v_trial) (v_past) (v_images) b2 x1  hx) zy_X5_pass zw_454 (by unfold zRm; decide) rfl rfl (fun _ => rfl) (N := 3) (by decide) (fun _ => ⟨rfl, rfl, rfl⟩) rfl rfl rfl (Nat.le_of_ble_eq_true rfl) dX5_forms_50 rfl rfl (fun _ => rfl) (fun x1 hf => ?_)
        have hx := Option.some.inj hf
        exact j_iret hC hR dX5_forms_53 (by rw [← hx]) (by rw [← hx])
      · refine j_aload_n (q := 25) hC dX5_forms_24 rfl rfl 0 rfl ?_
        refine j_get (q := 28) hC zcl_X5 0 6 zw_248 ⟨rfl, rfl, by decide⟩ rfl rfl dX5_forms_25 rfl ?_
        refine j_getN (q := 31) hC zcl_X3 1 5 zn_172 ⟨rfl, rfl, by decide⟩ rfl rfl dX5_forms_28 rfl ?_
        refine j_iload_n (q := 32) hC dX5_forms_31 rfl rfl 1 rfl ?_
        refine j_iload_n (q := 33) hC dX5_forms_32 rfl rfl 3 rfl ?_
        refine j_callS (q := 36) hC [.ref q_now_words, .int b1, .int b3] [] (fun x2 : Int32 => some (.int x2)) (fun x2 => [(q_now_words, .inl (E.2.1 0, 256, .inl s_now_words))]) (fun x2 => [(q_this, .inr (4, [v_tape, .int s_taped, v_plan, v_spare, .int s_hasCache, v_teller, .ref q_now, v_trial, v_past, v_images, .int s_imaged, .int s_refusal])), (q_now, .inr (2, [.int s_now_sets, .int s_now_ways, .int s_now_weighed, .int s_now_plain, v_now_memory, .ref q_now_words, v_now_used, v_now_last, v_now_shape, v_now_dirty, .int s_now_clock, .int s_now_hits, .int s_now_victims, .int s_now_backs])), (q_now_words, .inl (E.2.1 0, 256, .inl s_now_words))]) (fun x2 => [.int x2]) [2] [0, 1] hf (fun x2 hx => wX2_holds E 256 q_now_words s_now_words b1 b3 x2  hx) zy_X2_holds zw_515 (by unfold zRm; decide) rfl rfl (fun _ => rfl) (N := 3) (by decide) (fun _ => ⟨rfl, rfl, rfl⟩) rfl (Nat.le_of_ble_eq_true rfl) dX5_forms_33 rfl rfl (fun _ => rfl) (fun x2 hf => ?_)
        refine j_if_eq (tgt := 42) (q := 39) hC dX5_forms_36 (by decide) rfl hf (fun _ hf => ?_) (fun _ hf => ?_)
        · refine j_iinc (q := 45) (v := 1) hC (fun x3 => [(3, .int x3), (0, .ref q_this), (1, .int b1), (2, .int b2)]) dX5_forms_42 rfl 3 rfl (by decide) (by decide) (fun _ => rfl) hf (fun x3 hf => ?_)
          refine j_goto (tgt := 18) hC dX5_forms_45 (by decide) ?_
          refine j_sub (lv' := [(0, .ref q_this), (1, .int b1), (2, .int b2), (3, .int x3)]) [1, 2, 3, 0] rfl ?_
          exact ih b1 b2 x3 s_refusal hf
        · refine j_iinc (q := 42) (v := 1) hC (fun x4 => [(2, .int x4), (0, .ref q_this), (1, .int b1), (3, .int b3)]) dX5_forms_39 rfl 2 rfl (by decide) (by decide) (fun _ => rfl) hf (fun x4 hf => ?_)
          refine j_iinc (q := 45) (v := 1) hC (fun x5 => [(3, .int x5), (2, .int x4), (0, .ref q_this), (1, .int b1)]) dX5_forms_42 rfl 3 rfl (by decide) (by decide) (fun _ => rfl) hf (fun x5 hf => ?_)
          refine j_goto (tgt := 18) hC dX5_forms_45 (by decide) ?_
          refine j_sub (lv' := [(0, .ref q_this), (1, .int b1), (2, .int x4), (3, .int x5)]) [2, 3, 1, 0] rfl ?_
          exact ih b1 x4 x5 s_refusal hf
  unfold fX5_forms at hf
  refine j_sub (lv' := [(0, .ref q_this), (1, .int a1)]) [0, 1] rfl ?_
  refine j_aload_n (q := 1) hC dX5_forms_0 rfl rfl 0 rfl ?_
  refine j_iload_n (q := 2) hC dX5_forms_1 rfl rfl 1 rfl ?_
  refine j_callV (q := 5) hC [.int a1] [] (fun x1 : Int32 => some (.int x1)) (fun x1 => [(q_this, .inr (4, [v_tape, .int s_taped, v_plan, v_spare, .int s_hasCache, v_teller, .ref q_now, v_trial, v_past, v_images, .int s_imaged, .int s_refusal]))]) (fun x1 => [(q_this, .inr (4, [v_tape, .int s_taped, v_plan, v_spare, .int s_hasCache, v_teller, .ref q_now, v_trial, v_past, v_images, .int s_imaged, .int s_refusal])), (q_now, .inr (2, [.int s_now_sets, .int s_now_ways, .int s_now_weighed, .int s_now_plain, v_now_memory, .ref q_now_words, v_now_used, v_now_last, v_now_shape, v_now_dirty, .int s_now_clock, .int s_now_hits, .int s_now_victims, .int s_now_backs])), (q_now_words, .inl (E.2.1 0, 256, .inl s_now_words))]) (fun x1 => [.int x1]) [0] [1, 2] hf (fun x1 hx => wX5_isLine E q_this s_taped s_hasCache s_imaged s_refusal (v_tape) (v_plan) (v_spare) (v_teller) (.ref q_now) (v_trial) (v_past) (v_images) a1 x1  hx) zy_X5_isLine zw_474 (by unfold zRm; decide) rfl rfl (fun _ => rfl) (N := 3) (by decide) (fun _ => ⟨rfl, rfl, rfl⟩) rfl rfl rfl (Nat.le_of_ble_eq_true rfl) dX5_forms_2 rfl rfl (fun _ => rfl) (fun x1 hf => ?_)
  refine j_if_ne (tgt := 14) (q := 8) hC dX5_forms_5 (by decide) rfl hf (fun _ hf => ?_) (fun _ hf => ?_)
  · refine j_iconst (q := 15) (v := 0) hC dX5_forms_14 rfl (by decide) ?_
    refine j_istore_n (q := 16) (lv' := [(2, .int 0), (0, .ref q_this), (1, .int a1)]) hC dX5_forms_15 rfl rfl (by decide) rfl ?_
    refine j_iconst (q := 17) (v := 0) hC dX5_forms_16 rfl (by decide) ?_
    refine j_istore_n (q := 18) (lv' := [(3, .int 0), (2, .int 0), (0, .ref q_this), (1, .int a1)]) hC dX5_forms_17 rfl rfl (by decide) rfl ?_
    refine j_sub (lv' := [(0, .ref q_this), (1, .int a1), (2, .int 0), (3, .int 0)]) [2, 3, 1, 0] rfl ?_
    exact B18  zF a1 0 0 s_refusal hf
  · refine j_aload_n (q := 9) hC dX5_forms_8 rfl rfl 0 rfl ?_
    refine j_iconst (q := 10) (v := 1) hC dX5_forms_9 rfl (by decide) ?_
    refine j_callV (q := 13) hC [.int 1] [] (fun x2 : Int32 × Int32 => some (.int x2.1)) (fun x2 => [(q_this, .inr (4, [v_tape, .int s_taped, v_plan, v_spare, .int s_hasCache, v_teller, .ref q_now, v_trial, v_past, v_images, .int s_imaged, .int x2.2]))]) (fun x2 => [(q_this, .inr (4, [v_tape, .int s_taped, v_plan, v_spare, .int s_hasCache, v_teller, .ref q_now, v_trial, v_past, v_images, .int s_imaged, .int x2.2])), (q_now, .inr (2, [.int s_now_sets, .int s_now_ways, .int s_now_weighed, .int s_now_plain, v_now_memory, .ref q_now_words, v_now_used, v_now_last, v_now_shape, v_now_dirty, .int s_now_clock, .int s_now_hits, .int s_now_victims, .int s_now_backs])), (q_now_words, .inl (E.2.1 0, 256, .inl s_now_words))]) (fun x2 => [.int x2.1]) [0] [1, 2] hf (fun x2 hx => wX5_refuse E q_this s_taped s_hasCache s_imaged s_refusal (v_tape) (v_plan) (v_spare) (v_teller) (.ref q_now) (v_trial) (v_past) (v_images) 1 x2  hx) zy_X5_refuse zw_291 (by unfold zRm; decide) rfl rfl (fun _ => rfl) (N := 3) (by decide) (fun _ => ⟨rfl, rfl, rfl⟩) rfl rfl rfl (Nat.le_of_ble_eq_true rfl) dX5_forms_10 rfl rfl (fun _ => rfl) (fun x2 hf => ?_)
    have hx := Option.some.inj hf
    exact j_iret hC hR dX5_forms_13 (by rw [← hx]) (by rw [← hx])
noncomputable def fX5_segments (s_hasCache : Int32) (s_refusal : Int32) (s_now_words : (Nat → Int32)) (a1 : Int32) : Option (Int32 × Int32) :=
  (fX5_isLine s_hasCache a1).bind fun x1 =>
    if x1 = 0 then ((fX5_refuse s_refusal 1).bind fun x5 =>
    some (x5.1, x5.2))
    else ((fX2_shortest 256 s_now_words a1).bind fun x2 =>
    zald (zSv 1) 8 x2 fun x3 =>
    (fX5_pass s_refusal x3).bind fun x4 =>
    some (x4.1, x4.2))
set_option maxHeartbeats 4000000 in
set_option maxRecDepth 100000 in
theorem wX5_segments (E : zE) (q_this : Nat) (q_now : Nat) (q_now_words : Nat) (s_taped : Int32) (s_hasCache : Int32) (s_imaged : Int32) (s_refusal : Int32) (s_now_sets : Int32) (s_now_ways : Int32) (s_now_weighed : Int32) (s_now_plain : Int32) (s_now_clock : Int32) (s_now_hits : Int32) (s_now_victims : Int32) (s_now_backs : Int32) (s_now_words : (Nat → Int32)) (v_tape : Value) (v_plan : Value) (v_spare : Value) (v_teller : Value) (v_trial : Value) (v_past : Value) (v_images : Value) (v_now_memory : Value) (v_now_used : Value) (v_now_last : Value) (v_now_shape : Value) (v_now_dirty : Value) (a1 : Int32) (x : Int32 × Int32) (hf : fX5_segments s_hasCache s_refusal s_now_words a1 = some x) (l : Launch) (sz : Nat) : zM l yX5_segments cX5_segments 2 (some .int) { frames := 3, cells := 0, slots := 0, locals := 78 } E [.ref q_this, .int a1] [(q_this, .inr (4, [v_tape, .int s_taped, v_plan, v_spare, .int s_hasCache, v_teller, .ref q_now, v_trial, v_past, v_images, .int s_imaged, .int s_refusal])), (q_now, .inr (2, [.int s_now_sets, .int s_now_ways, .int s_now_weighed, .int s_now_plain, v_now_memory, .ref q_now_words, v_now_used, v_now_last, v_now_shape, v_now_dirty, .int s_now_clock, .int s_now_hits, .int s_now_victims, .int s_now_backs])), (q_now_words, .inl (E.2.1 0, 256, .inl s_now_words))] sz (some (.int x.1)) [(q_this, .inr (4, [v_tape, .int s_taped, v_plan, v_spare, .int s_hasCache, v_teller, .ref q_now, v_trial, v_past, v_images, .int s_imaged, .int x.2])), (q_now, .inr (2, [.int s_now_sets, .int s_now_ways, .int s_now_weighed, .int s_now_plain, v_now_memory, .ref q_now_words, v_now_used, v_now_last, v_now_shape, v_now_dirty, .int s_now_clock, .int s_now_hits, .int s_now_victims, .int s_now_backs])), (q_now_words, .inl (E.2.1 0, 256, .inl s_now_words))] := by
  refine zEnter (by decide) (Nat.le_of_ble_eq_true rfl) ?_
  intro C hC hR
  change zC C E cX5_segments "PackedCache" 2 _ at hC
  unfold fX5_segments at hf
  refine j_sub (lv' := [(0, .ref q_this), (1, .int a1)]) [0, 1] rfl ?_
  refine j_aload_n (q := 1) hC dX5_segments_0 rfl rfl 0 rfl ?_
  refine j_iload_n (q := 2) hC dX5_segments_1 rfl rfl 1 rfl ?_
  refine j_callV (q := 5) hC [.int a1] [] (fun x1 : Int32 => some (.int x1)) (fun x1 => [(q_this, .inr (4, [v_tape, .int s_taped, v_plan, v_spare, .int s_hasCache, v_teller, .ref q_now, v_trial, v_past, v_images, .int s_imaged, .int s_refusal]))]) (fun x1 => [(q_this, .inr (4, [v_tape, .int s_taped, v_plan, v_spare, .int s_hasCache, v_teller, .ref q_now, v_trial, v_past, v_images, .int s_imaged, .int s_refusal])), (q_now, .inr (2, [.int s_now_sets, .int s_now_ways, .int s_now_weighed, .int s_now_plain, v_now_memory, .ref q_now_words, v_now_used, v_now_last, v_now_shape, v_now_dirty, .int s_now_clock, .int s_now_hits, .int s_now_victims, .int s_now_backs])), (q_now_words, .inl (E.2.1 0, 256, .inl s_now_words))]) (fun x1 => [.int x1]) [0] [1, 2] hf (fun x1 hx => wX5_isLine E q_this s_taped s_hasCache s_imaged s_refusal (v_tape) (v_plan) (v_spare) (v_teller) (.ref q_now) (v_trial) (v_past) (v_images) a1 x1  hx) zy_X5_isLine zw_474 (by unfold zRm; decide) rfl rfl (fun _ => rfl) (N := 3) (by decide) (fun _ => ⟨rfl, rfl, rfl⟩) rfl rfl rfl (Nat.le_of_ble_eq_true rfl) dX5_segments_2 rfl rfl (fun _ => rfl) (fun x1 hf => ?_)
  refine j_if_ne (tgt := 14) (q := 8) hC dX5_segments_5 (by decide) rfl hf (fun _ hf => ?_) (fun _ hf => ?_)
  · refine j_aload_n (q := 15) hC dX5_segments_14 rfl rfl 0 rfl ?_
    refine j_gets (q := 18) hC 1 (by decide) zw_526 dX5_segments_15 rfl ?_
    refine j_aload_n (q := 19) hC dX5_segments_18 rfl rfl 0 rfl ?_
    refine j_get (q := 22) hC zcl_X5 0 6 zw_248 ⟨rfl, rfl, by decide⟩ rfl rfl dX5_segments_19 rfl ?_
    refine j_getN (q := 25) hC zcl_X3 1 5 zn_172 ⟨rfl, rfl, by decide⟩ rfl rfl dX5_segments_22 rfl ?_
    refine j_iload_n (q := 26) hC dX5_segments_25 rfl rfl 1 rfl ?_
    refine j_callS (q := 29) hC [.ref q_now_words, .int a1] [.ref (E.2.2.1 1), .ref q_this] (fun x2 : Int32 => some (.int x2)) (fun x2 => [(q_now_words, .inl (E.2.1 0, 256, .inl s_now_words))]) (fun x2 => [(q_this, .inr (4, [v_tape, .int s_taped, v_plan, v_spare, .int s_hasCache, v_teller, .ref q_now, v_trial, v_past, v_images, .int s_imaged, .int s_refusal])), (q_now, .inr (2, [.int s_now_sets, .int s_now_ways, .int s_now_weighed, .int s_now_plain, v_now_memory, .ref q_now_words, v_now_used, v_now_last, v_now_shape, v_now_dirty, .int s_now_clock, .int s_now_hits, .int s_now_victims, .int s_now_backs])), (q_now_words, .inl (E.2.1 0, 256, .inl s_now_words))]) (fun x2 => [.int x2, .ref (E.2.2.1 1), .ref q_this]) [2] [0, 1] hf (fun x2 hx => wX2_shortest E 256 q_now_words s_now_words a1 x2  hx) zy_X2_shortest zw_486 (by unfold zRm; decide) rfl rfl (fun _ => rfl) (N := 3) (by decide) (fun _ => ⟨rfl, rfl, rfl⟩) rfl (Nat.le_of_ble_eq_true rfl) dX5_segments_26 rfl rfl (fun _ => rfl) (fun x2 hf => ?_)
    refine j_tld (q := 30) hC 1 (by decide) dX5_segments_29 rfl hf (fun x3 hf => ?_)
    refine j_callV (q := 33) hC [.int x3] [] (fun x4 : Int32 × Int32 => some (.int x4.1)) (fun x4 => [(q_this, .inr (4, [v_tape, .int s_taped, v_plan, v_spare, .int s_hasCache, v_teller, .ref q_now, v_trial, v_past, v_images, .int s_imaged, .int x4.2]))]) (fun x4 => [(q_this, .inr (4, [v_tape, .int s_taped, v_plan, v_spare, .int s_hasCache, v_teller, .ref q_now, v_trial, v_past, v_images, .int s_imaged, .int x4.2])), (q_now, .inr (2, [.int s_now_sets, .int s_now_ways, .int s_now_weighed, .int s_now_plain, v_now_memory, .ref q_now_words, v_now_used, v_now_last, v_now_shape, v_now_dirty, .int s_now_clock, .int s_now_hits, .int s_now_victims, .int s_now_backs])), (q_now_words, .inl (E.2.1 0, 256, .inl s_now_words))]) (fun x4 => [.int x4.1]) [0] [1, 2] hf (fun x4 hx => wX5_pass E q_this s_taped s_hasCache s_imaged s_refusal (v_tape) (v_plan) (v_spare) (v_teller) (.ref q_now) (v_trial) (v_past) (v_images) x3 x4  hx) zy_X5_pass zw_454 (by unfold zRm; decide) rfl rfl (fun _ => rfl) (N := 3) (by decide) (fun _ => ⟨rfl, rfl, rfl⟩) rfl rfl rfl (Nat.le_of_ble_eq_true rfl) dX5_segments_30 rfl rfl (fun _ => rfl) (fun x4 hf => ?_)
    have hx := Option.some.inj hf
    exact j_iret hC hR dX5_segments_33 (by rw [← hx]) (by rw [← hx])
  · refine j_aload_n (q := 9) hC dX5_segments_8 rfl rfl 0 rfl ?_
    refine j_iconst (q := 10) (v := 1) hC dX5_segments_9 rfl (by decide) ?_
    refine j_callV (q := 13) hC [.int 1] [] (fun x5 : Int32 × Int32 => some (.int x5.1)) (fun x5 => [(q_this, .inr (4, [v_tape, .int s_taped, v_plan, v_spare, .int s_hasCache, v_teller, .ref q_now, v_trial, v_past, v_images, .int s_imaged, .int x5.2]))]) (fun x5 => [(q_this, .inr (4, [v_tape, .int s_taped, v_plan, v_spare, .int s_hasCache, v_teller, .ref q_now, v_trial, v_past, v_images, .int s_imaged, .int x5.2])), (q_now, .inr (2, [.int s_now_sets, .int s_now_ways, .int s_now_weighed, .int s_now_plain, v_now_memory, .ref q_now_words, v_now_used, v_now_last, v_now_shape, v_now_dirty, .int s_now_clock, .int s_now_hits, .int s_now_victims, .int s_now_backs])), (q_now_words, .inl (E.2.1 0, 256, .inl s_now_words))]) (fun x5 => [.int x5.1]) [0] [1, 2] hf (fun x5 hx => wX5_refuse E q_this s_taped s_hasCache s_imaged s_refusal (v_tape) (v_plan) (v_spare) (v_teller) (.ref q_now) (v_trial) (v_past) (v_images) 1 x5  hx) zy_X5_refuse zw_291 (by unfold zRm; decide) rfl rfl (fun _ => rfl) (N := 3) (by decide) (fun _ => ⟨rfl, rfl, rfl⟩) rfl rfl rfl (Nat.le_of_ble_eq_true rfl) dX5_segments_10 rfl rfl (fun _ => rfl) (fun x5 hf => ?_)
    have hx := Option.some.inj hf
    exact j_iret hC hR dX5_segments_13 (by rw [← hx]) (by rw [← hx])
noncomputable def fX5_isBased (a0 : Int32) : Option (Int32) :=
  if a0 < 2 then (some 0)
    else (if 6 < a0 then (some 0)
    else (some 1))
set_option maxHeartbeats 4000000 in
set_option maxRecDepth 100000 in
theorem wX5_isBased (E : zE) (a0 : Int32) (x : Int32) (hf : fX5_isBased a0 = some x) (l : Launch) (sz : Nat) : zM l yX5_isBased cX5_isBased 1 (some .boolean) { frames := 0, cells := 0, slots := 0, locals := 0 } E [.int a0] [] sz (some (.int x)) [] := by
  refine zEnter (by decide) (Nat.le_of_ble_eq_true rfl) ?_
  intro C hC hR
  change zC C E cX5_isBased "PackedCache" 1 _ at hC
  unfold fX5_isBased at hf
  refine j_sub (lv' := [(0, .int a0)]) [0] rfl ?_
  refine j_iload_n (q := 1) hC dX5_isBased_0 rfl rfl 0 rfl ?_
  refine j_iconst (q := 2) (v := 2) hC dX5_isBased_1 rfl (by decide) ?_
  refine j_icmp_lt (tgt := 15) (q := 5) hC dX5_isBased_2 (by decide) rfl hf (fun _ hf => ?_) (fun _ hf => ?_)
  · refine j_iconst (q := 16) (v := 0) hC dX5_isBased_15 rfl (by decide) ?_
    have hx := Option.some.inj hf
    exact j_zret hC hR rfl dX5_isBased_16 (by rw [← hx]) rfl
  · refine j_iload_n (q := 6) hC dX5_isBased_5 rfl rfl 0 rfl ?_
    refine j_bipush (q := 8) (v := 6) hC dX5_isBased_6 rfl (by decide) ?_
    refine j_icmp_gt (tgt := 15) (q := 11) hC dX5_isBased_8 (by decide) rfl hf (fun _ hf => ?_) (fun _ hf => ?_)
    · refine j_iconst (q := 16) (v := 0) hC dX5_isBased_15 rfl (by decide) ?_
      have hx := Option.some.inj hf
      exact j_zret hC hR rfl dX5_isBased_16 (by rw [← hx]) rfl
    · refine j_iconst (q := 12) (v := 1) hC dX5_isBased_11 rfl (by decide) ?_
      refine j_goto (tgt := 16) hC dX5_isBased_12 (by decide) ?_
      have hx := Option.some.inj hf
      exact j_zret hC hR rfl dX5_isBased_16 (by rw [← hx]) rfl
noncomputable def fX5_base (s_hasCache : Int32) (s_refusal : Int32) (s_now_words : (Nat → Int32)) (a1 : Int32) (a2 : Int32) : Option (Int64 × Int32) :=
  (fX5_isLine s_hasCache a1).bind fun x1 =>
    if x1 = 0 then ((fX5_refuse s_refusal 1).bind fun x6 =>
    zlet (Int32.toInt64 x6.1 : Int64) fun x7 =>
    some (x7, x6.2))
    else ((fX5_isBased a2).bind fun x2 =>
    if x2 = 0 then ((fX5_refuse s_refusal 2).bind fun x4 =>
    zlet (Int32.toInt64 x4.1 : Int64) fun x5 =>
    some (x5, x4.2))
    else ((fX2_baseOf 256 s_now_words a1 a2).bind fun x3 =>
    some (x3, 0)))
set_option maxHeartbeats 4000000 in
set_option maxRecDepth 100000 in
theorem wX5_base (E : zE) (q_this : Nat) (q_now : Nat) (q_now_words : Nat) (s_taped : Int32) (s_hasCache : Int32) (s_imaged : Int32) (s_refusal : Int32) (s_now_sets : Int32) (s_now_ways : Int32) (s_now_weighed : Int32) (s_now_plain : Int32) (s_now_clock : Int32) (s_now_hits : Int32) (s_now_victims : Int32) (s_now_backs : Int32) (s_now_words : (Nat → Int32)) (v_tape : Value) (v_plan : Value) (v_spare : Value) (v_teller : Value) (v_trial : Value) (v_past : Value) (v_images : Value) (v_now_memory : Value) (v_now_used : Value) (v_now_last : Value) (v_now_shape : Value) (v_now_dirty : Value) (a1 : Int32) (a2 : Int32) (x : Int64 × Int32) (hf : fX5_base s_hasCache s_refusal s_now_words a1 a2 = some x) (l : Launch) (sz : Nat) : zM l yX5_base cX5_base 3 (some .long) { frames := 2, cells := 0, slots := 0, locals := 53 } E [.ref q_this, .int a1, .int a2] [(q_this, .inr (4, [v_tape, .int s_taped, v_plan, v_spare, .int s_hasCache, v_teller, .ref q_now, v_trial, v_past, v_images, .int s_imaged, .int s_refusal])), (q_now, .inr (2, [.int s_now_sets, .int s_now_ways, .int s_now_weighed, .int s_now_plain, v_now_memory, .ref q_now_words, v_now_used, v_now_last, v_now_shape, v_now_dirty, .int s_now_clock, .int s_now_hits, .int s_now_victims, .int s_now_backs])), (q_now_words, .inl (E.2.1 0, 256, .inl s_now_words))] sz (some (.long x.1)) [(q_this, .inr (4, [v_tape, .int s_taped, v_plan, v_spare, .int s_hasCache, v_teller, .ref q_now, v_trial, v_past, v_images, .int s_imaged, .int x.2])), (q_now, .inr (2, [.int s_now_sets, .int s_now_ways, .int s_now_weighed, .int s_now_plain, v_now_memory, .ref q_now_words, v_now_used, v_now_last, v_now_shape, v_now_dirty, .int s_now_clock, .int s_now_hits, .int s_now_victims, .int s_now_backs])), (q_now_words, .inl (E.2.1 0, 256, .inl s_now_words))] := by
  refine zEnter (by decide) (Nat.le_of_ble_eq_true rfl) ?_
  intro C hC hR
  change zC C E cX5_base "PackedCache" 3 _ at hC
  unfold fX5_base at hf
  refine j_sub (lv' := [(0, .ref q_this), (1, .int a1), (2, .int a2)]) [0, 1, 2] rfl ?_
  refine j_aload_n (q := 1) hC dX5_base_0 rfl rfl 0 rfl ?_
  refine j_iload_n (q := 2) hC dX5_base_1 rfl rfl 1 rfl ?_
  refine j_callV (q := 5) hC [.int a1] [] (fun x1 : Int32 => some (.int x1)) (fun x1 => [(q_this, .inr (4, [v_tape, .int s_taped, v_plan, v_spare, .int s_hasCache, v_teller, .ref q_now, v_trial, v_past, v_images, .int s_imaged, .int s_refusal]))]) (fun x1 => [(q_this, .inr (4, [v_tape, .int s_taped, v_plan, v_spare, .int s_hasCache, v_teller, .ref q_now, v_trial, v_past, v_images, .int s_imaged, .int s_refusal])), (q_now, .inr (2, [.int s_now_sets, .int s_now_ways, .int s_now_weighed, .int s_now_plain, v_now_memory, .ref q_now_words, v_now_used, v_now_last, v_now_shape, v_now_dirty, .int s_now_clock, .int s_now_hits, .int s_now_victims, .int s_now_backs])), (q_now_words, .inl (E.2.1 0, 256, .inl s_now_words))]) (fun x1 => [.int x1]) [0] [1, 2] hf (fun x1 hx => wX5_isLine E q_this s_taped s_hasCache s_imaged s_refusal (v_tape) (v_plan) (v_spare) (v_teller) (.ref q_now) (v_trial) (v_past) (v_images) a1 x1  hx) zy_X5_isLine zw_474 (by unfold zRm; decide) rfl rfl (fun _ => rfl) (N := 3) (by decide) (fun _ => ⟨rfl, rfl, rfl⟩) rfl rfl rfl (Nat.le_of_ble_eq_true rfl) dX5_base_2 rfl rfl (fun _ => rfl) (fun x1 hf => ?_)
  refine j_if_ne (tgt := 15) (q := 8) hC dX5_base_5 (by decide) rfl hf (fun _ hf => ?_) (fun _ hf => ?_)
  · refine j_iload_n (q := 16) hC dX5_base_15 rfl rfl 2 rfl ?_
    refine j_callS (q := 19) hC [.int a2] [] (fun x2 : Int32 => some (.int x2)) (fun x2 => []) (fun x2 => [(q_this, .inr (4, [v_tape, .int s_taped, v_plan, v_spare, .int s_hasCache, v_teller, .ref q_now, v_trial, v_past, v_images, .int s_imaged, .int s_refusal])), (q_now, .inr (2, [.int s_now_sets, .int s_now_ways, .int s_now_weighed, .int s_now_plain, v_now_memory, .ref q_now_words, v_now_used, v_now_last, v_now_shape, v_now_dirty, .int s_now_clock, .int s_now_hits, .int s_now_victims, .int s_now_backs])), (q_now_words, .inl (E.2.1 0, 256, .inl s_now_words))]) (fun x2 => [.int x2]) [] [0, 1, 2] hf (fun x2 hx => wX5_isBased E a2 x2  hx) zy_X5_isBased zw_532 (by unfold zRm; decide) rfl rfl (fun _ => rfl) (N := 3) (by decide) (fun _ => ⟨rfl, rfl, rfl⟩) rfl (Nat.le_of_ble_eq_true rfl) dX5_base_16 rfl rfl (fun _ => rfl) (fun x2 hf => ?_)
    refine j_if_ne (tgt := 29) (q := 22) hC dX5_base_19 (by decide) rfl hf (fun _ hf => ?_) (fun _ hf => ?_)
    · refine j_aload_n (q := 30) hC dX5_base_29 rfl rfl 0 rfl ?_
      refine j_iconst (q := 31) (v := 0) hC dX5_base_30 rfl (by decide) ?_
      refine j_put (q := 34) (host := "") hC zcl_X5 0 11 (ws' := [(q_this, .inr (4, [v_tape, .int s_taped, v_plan, v_spare, .int s_hasCache, v_teller, .ref q_now, v_trial, v_past, v_images, .int s_imaged, .int 0])), (q_now, .inr (2, [.int s_now_sets, .int s_now_ways, .int s_now_weighed, .int s_now_plain, v_now_memory, .ref q_now_words, v_now_used, v_now_last, v_now_shape, v_now_dirty, .int s_now_clock, .int s_now_hits, .int s_now_victims, .int s_now_backs])), (q_now_words, .inl (E.2.1 0, 256, .inl s_now_words))]) zw_253 ⟨rfl, rfl, by decide, rfl⟩ rfl rfl rfl (Nat.le_of_ble_eq_true rfl) rfl dX5_base_31 rfl ?_
      refine j_aload_n (q := 35) hC dX5_base_34 rfl rfl 0 rfl ?_
      refine j_get (q := 38) hC zcl_X5 0 6 zw_248 ⟨rfl, rfl, by decide⟩ rfl rfl dX5_base_35 rfl ?_
      refine j_getN (q := 41) hC zcl_X3 1 5 zn_172 ⟨rfl, rfl, by decide⟩ rfl rfl dX5_base_38 rfl ?_
      refine j_iload_n (q := 42) hC dX5_base_41 rfl rfl 1 rfl ?_
      refine j_iload_n (q := 43) hC dX5_base_42 rfl rfl 2 rfl ?_
      refine j_callS (q := 46) hC [.ref q_now_words, .int a1, .int a2] [] (fun x3 : Int64 => some (.long x3)) (fun x3 => [(q_now_words, .inl (E.2.1 0, 256, .inl s_now_words))]) (fun x3 => [(q_this, .inr (4, [v_tape, .int s_taped, v_plan, v_spare, .int s_hasCache, v_teller, .ref q_now, v_trial, v_past, v_images, .int s_imaged, .int 0])), (q_now, .inr (2, [.int s_now_sets, .int s_now_ways, .int s_now_weighed, .int s_now_plain, v_now_memory, .ref q_now_words, v_now_used, v_now_last, v_now_shape, v_now_dirty, .int s_now_clock, .int s_now_hits, .int s_now_victims, .int s_now_backs])), (q_now_words, .inl (E.2.1 0, 256, .inl s_now_words))]) (fun x3 => [.long x3]) [2] [0, 1] hf (fun x3 hx => wX2_baseOf E 256 q_now_words s_now_words a1 a2 x3  hx) zy_X2_baseOf zw_535 (by unfold zRm; decide) rfl rfl (fun _ => rfl) (N := 3) (by decide) (fun _ => ⟨rfl, rfl, rfl⟩) rfl (Nat.le_of_ble_eq_true rfl) dX5_base_43 rfl rfl (fun _ => rfl) (fun x3 hf => ?_)
      have hx := Option.some.inj hf
      exact j_lret hC hR dX5_base_46 (by rw [← hx]) (by rw [← hx])
    · refine j_aload_n (q := 23) hC dX5_base_22 rfl rfl 0 rfl ?_
      refine j_iconst (q := 24) (v := 2) hC dX5_base_23 rfl (by decide) ?_
      refine j_callV (q := 27) hC [.int 2] [] (fun x4 : Int32 × Int32 => some (.int x4.1)) (fun x4 => [(q_this, .inr (4, [v_tape, .int s_taped, v_plan, v_spare, .int s_hasCache, v_teller, .ref q_now, v_trial, v_past, v_images, .int s_imaged, .int x4.2]))]) (fun x4 => [(q_this, .inr (4, [v_tape, .int s_taped, v_plan, v_spare, .int s_hasCache, v_teller, .ref q_now, v_trial, v_past, v_images, .int s_imaged, .int x4.2])), (q_now, .inr (2, [.int s_now_sets, .int s_now_ways, .int s_now_weighed, .int s_now_plain, v_now_memory, .ref q_now_words, v_now_used, v_now_last, v_now_shape, v_now_dirty, .int s_now_clock, .int s_now_hits, .int s_now_victims, .int s_now_backs])), (q_now_words, .inl (E.2.1 0, 256, .inl s_now_words))]) (fun x4 => [.int x4.1]) [0] [1, 2] hf (fun x4 hx => wX5_refuse E q_this s_taped s_hasCache s_imaged s_refusal (v_tape) (v_plan) (v_spare) (v_teller) (.ref q_now) (v_trial) (v_past) (v_images) 2 x4  hx) zy_X5_refuse zw_291 (by unfold zRm; decide) rfl rfl (fun _ => rfl) (N := 3) (by decide) (fun _ => ⟨rfl, rfl, rfl⟩) rfl rfl rfl (Nat.le_of_ble_eq_true rfl) dX5_base_24 rfl rfl (fun _ => rfl) (fun x4 hf => ?_)
      refine j_i2l (q := 28) hC dX5_base_27 rfl hf (fun x5 hf => ?_)
      have hx := Option.some.inj hf
      exact j_lret hC hR dX5_base_28 (by rw [← hx]) (by rw [← hx])
  · refine j_aload_n (q := 9) hC dX5_base_8 rfl rfl 0 rfl ?_
    refine j_iconst (q := 10) (v := 1) hC dX5_base_9 rfl (by decide) ?_
    refine j_callV (q := 13) hC [.int 1] [] (fun x6 : Int32 × Int32 => some (.int x6.1)) (fun x6 => [(q_this, .inr (4, [v_tape, .int s_taped, v_plan, v_spare, .int s_hasCache, v_teller, .ref q_now, v_trial, v_past, v_images, .int s_imaged, .int x6.2]))]) (fun x6 => [(q_this, .inr (4, [v_tape, .int s_taped, v_plan, v_spare, .int s_hasCache, v_teller, .ref q_now, v_trial, v_past, v_images, .int s_imaged, .int x6.2])), (q_now, .inr (2, [.int s_now_sets, .int s_now_ways, .int s_now_weighed, .int s_now_plain, v_now_memory, .ref q_now_words, v_now_used, v_now_last, v_now_shape, v_now_dirty, .int s_now_clock, .int s_now_hits, .int s_now_victims, .int s_now_backs])), (q_now_words, .inl (E.2.1 0, 256, .inl s_now_words))]) (fun x6 => [.int x6.1]) [0] [1, 2] hf (fun x6 hx => wX5_refuse E q_this s_taped s_hasCache s_imaged s_refusal (v_tape) (v_plan) (v_spare) (v_teller) (.ref q_now) (v_trial) (v_past) (v_images) 1 x6  hx) zy_X5_refuse zw_291 (by unfold zRm; decide) rfl rfl (fun _ => rfl) (N := 3) (by decide) (fun _ => ⟨rfl, rfl, rfl⟩) rfl rfl rfl (Nat.le_of_ble_eq_true rfl) dX5_base_10 rfl rfl (fun _ => rfl) (fun x6 hf => ?_)
    refine j_i2l (q := 14) hC dX5_base_13 rfl hf (fun x7 hf => ?_)
    have hx := Option.some.inj hf
    exact j_lret hC hR dX5_base_14 (by rw [← hx]) (by rw [← hx])
noncomputable def fX5_mask_32 (s_hasCache : Int32) (s_now_words : (Nat → Int32))  : Nat → Int32 → Int32 → Int32 → Int32 → Int32 → Option (Int32 × Int32)
  | 0, _, _, _, _, _ => none
  | m + 1, b1, b2, b3, b4, s_refusal =>
    (fX2_lanesOf b2).bind fun x1 =>
    if x1 ≤ b4 then ((fX5_pass s_refusal b3).bind fun x2 =>
    some (x2.1, x2.2))
    else ((fX2_lane 256 s_now_words b1 b2 b4).bind fun x3 =>
    (fX2_isSmall x3 b2).bind fun x4 =>
    if x4 = 0 then (zlet (b4 + 1) fun x5 =>
    fX5_mask_32 s_hasCache s_now_words  m b1 b2 b3 x5 s_refusal)
    else (zlet (1 <<< (b4 &&& 31) : Int32) fun x6 =>
    zlet (b3 ||| x6 : Int32) fun x7 =>
    zlet (b4 + 1) fun x8 =>
    fX5_mask_32 s_hasCache s_now_words  m b1 b2 x7 x8 s_refusal))
noncomputable def fX5_mask (s_hasCache : Int32) (s_refusal : Int32) (s_now_words : (Nat → Int32)) (a1 : Int32) (a2 : Int32) : Option (Int32 × Int32) :=
  (fX5_isLine s_hasCache a1).bind fun x1 =>
    if x1 = 0 then ((fX5_refuse s_refusal 1).bind fun x4 =>
    some (x4.1, x4.2))
    else ((fX5_isBased a2).bind fun x2 =>
    if x2 = 0 then ((fX5_refuse s_refusal 2).bind fun x3 =>
    some (x3.1, x3.2))
    else (fX5_mask_32 s_hasCache s_now_words  zF a1 a2 0 0 s_refusal))
set_option maxHeartbeats 4000000 in
set_option maxRecDepth 100000 in
theorem wX5_mask (E : zE) (q_this : Nat) (q_now : Nat) (q_now_words : Nat) (s_taped : Int32) (s_hasCache : Int32) (s_imaged : Int32) (s_refusal : Int32) (s_now_sets : Int32) (s_now_ways : Int32) (s_now_weighed : Int32) (s_now_plain : Int32) (s_now_clock : Int32) (s_now_hits : Int32) (s_now_victims : Int32) (s_now_backs : Int32) (s_now_words : (Nat → Int32)) (v_tape : Value) (v_plan : Value) (v_spare : Value) (v_teller : Value) (v_trial : Value) (v_past : Value) (v_images : Value) (v_now_memory : Value) (v_now_used : Value) (v_now_last : Value) (v_now_shape : Value) (v_now_dirty : Value) (a1 : Int32) (a2 : Int32) (x : Int32 × Int32) (hf : fX5_mask s_hasCache s_refusal s_now_words a1 a2 = some x) (l : Launch) (sz : Nat) : zM l yX5_mask cX5_mask 5 (some .int) { frames := 1, cells := 0, slots := 0, locals := 28 } E [.ref q_this, .int a1, .int a2] [(q_this, .inr (4, [v_tape, .int s_taped, v_plan, v_spare, .int s_hasCache, v_teller, .ref q_now, v_trial, v_past, v_images, .int s_imaged, .int s_refusal])), (q_now, .inr (2, [.int s_now_sets, .int s_now_ways, .int s_now_weighed, .int s_now_plain, v_now_memory, .ref q_now_words, v_now_used, v_now_last, v_now_shape, v_now_dirty, .int s_now_clock, .int s_now_hits, .int s_now_victims, .int s_now_backs])), (q_now_words, .inl (E.2.1 0, 256, .inl s_now_words))] sz (some (.int x.1)) [(q_this, .inr (4, [v_tape, .int s_taped, v_plan, v_spare, .int s_hasCache, v_teller, .ref q_now, v_trial, v_past, v_images, .int s_imaged, .int x.2])), (q_now, .inr (2, [.int s_now_sets, .int s_now_ways, .int s_now_weighed, .int s_now_plain, v_now_memory, .ref q_now_words, v_now_used, v_now_last, v_now_shape, v_now_dirty, .int s_now_clock, .int s_now_hits, .int s_now_victims, .int s_now_backs])), (q_now_words, .inl (E.2.1 0, 256, .inl s_now_words))] := by
  refine zEnter (by decide) (Nat.le_of_ble_eq_true rfl) ?_
  intro C hC hR
  change zC C E cX5_mask "PackedCache" 5 _ at hC
  have B32 : ∀ (N : Nat), ∀ (b1 : Int32) (b2 : Int32) (b3 : Int32) (b4 : Int32) (s_refusal : Int32), fX5_mask_32 s_hasCache s_now_words  N b1 b2 b3 b4 s_refusal = some x → J C 0 0 [(q_this, .inr (4, [v_tape, .int s_taped, v_plan, v_spare, .int s_hasCache, v_teller, .ref q_now, v_trial, v_past, v_images, .int s_imaged, .int s_refusal])), (q_now, .inr (2, [.int s_now_sets, .int s_now_ways, .int s_now_weighed, .int s_now_plain, v_now_memory, .ref q_now_words, v_now_used, v_now_last, v_now_shape, v_now_dirty, .int s_now_clock, .int s_now_hits, .int s_now_victims, .int s_now_backs])), (q_now_words, .inl (E.2.1 0, 256, .inl s_now_words))] [(0, .ref q_this), (1, .int b1), (2, .int b2), (3, .int b3), (4, .int b4)] 32 [] := by
    intro  N
    induction N with
    | zero =>
      intro b1 b2 b3 b4 s_refusal hf
      rw [fX5_mask_32] at hf
      cases hf
    | succ m ih =>
      intro b1 b2 b3 b4 s_refusal hf
      rw [fX5_mask_32] at hf
      refine j_iload (q := 34) hC dX5_mask_32 rfl 4 rfl ?_
      refine j_iload_n (q := 35) hC dX5_mask_34 rfl rfl 2 rfl ?_
      refine j_callS (q := 38) hC [.int b2] [.int b4] (fun x1 : Int32 => some (.int x1)) (fun x1 => []) (fun x1 => [(q_this, .inr (4, [v_tape, .int s_taped, v_plan, v_spare, .int s_hasCache, v_teller, .ref q_now, v_trial, v_past, v_images, .int s_imaged, .int s_refusal])), (q_now, .inr (2, [.int s_now_sets, .int s_now_ways, .int s_now_weighed, .int s_now_plain, v_now_memory, .ref q_now_words, v_now_used, v_now_last, v_now_shape, v_now_dirty, .int s_now_clock, .int s_now_hits, .int s_now_victims, .int s_now_backs])), (q_now_words, .inl (E.2.1 0, 256, .inl s_now_words))]) (fun x1 => [.int x1, .int b4]) [] [0, 1, 2] hf (fun x1 hx => wX2_lanesOf E b2 x1  hx) zy_X2_lanesOf zw_542 (by unfold zRm; decide) rfl rfl (fun _ => rfl) (N := 3) (by decide) (fun _ => ⟨rfl, rfl, rfl⟩) rfl (Nat.le_of_ble_eq_true rfl) dX5_mask_35 rfl rfl (fun _ => rfl) (fun x1 hf => ?_)
      refine j_icmp_ge (tgt := 75) (q := 41) hC dX5_mask_38 (by decide) rfl hf (fun _ hf => ?_) (fun _ hf => ?_)
      · refine j_aload_n (q := 76) hC dX5_mask_75 rfl rfl 0 rfl ?_
        refine j_iload_n (q := 77) hC dX5_mask_76 rfl rfl 3 rfl ?_
        refine j_callV (q := 80) hC [.int b3] [] (fun x2 : Int32 × Int32 => some (.int x2.1)) (fun x2 => [(q_this, .inr (4, [v_tape, .int s_taped, v_plan, v_spare, .int s_hasCache, v_teller, .ref q_now, v_trial, v_past, v_images, .int s_imaged, .int x2.2]))]) (fun x2 => [(q_this, .inr (4, [v_tape, .int s_taped, v_plan, v_spare, .int s_hasCache, v_teller, .ref q_now, v_trial, v_past, v_images, .int s_imaged, .int x2.2])), (q_now, .inr (2, [.int s_now_sets, .int s_now_ways, .int s_now_weighed, .int s_now_plain, v_now_memory, .ref q_now_words, v_now_used, v_now_last, v_now_shape, v_now_dirty, .int s_now_clock, .int s_now_hits, .int s_now_victims, .int s_now_backs])), (q_now_words, .inl (E.2.1 0, 256, .inl s_now_words))]) (fun x2 => [.int x2.1]) [0] [1, 2] hf (fun x2 hx => wX5_pass E q_this s_taped s_hasCache s_imaged s_refusal (v_tape) (v_plan) (v_spare) (v_teller) (.ref q_now) (v_trial) (v_past) (v_images) b3 x2  hx) zy_X5_pass zw_454 (by unfold zRm; decide) rfl rfl (fun _ => rfl) (N := 3) (by decide) (fun _ => ⟨rfl, rfl, rfl⟩) rfl rfl rfl (Nat.le_of_ble_eq_true rfl) dX5_mask_77 rfl rfl (fun _ => rfl) (fun x2 hf => ?_)
        have hx := Option.some.inj hf
        exact j_iret hC hR dX5_mask_80 (by rw [← hx]) (by rw [← hx])
      · refine j_aload_n (q := 42) hC dX5_mask_41 rfl rfl 0 rfl ?_
        refine j_get (q := 45) hC zcl_X5 0 6 zw_248 ⟨rfl, rfl, by decide⟩ rfl rfl dX5_mask_42 rfl ?_
        refine j_getN (q := 48) hC zcl_X3 1 5 zn_172 ⟨rfl, rfl, by decide⟩ rfl rfl dX5_mask_45 rfl ?_
        refine j_iload_n (q := 49) hC dX5_mask_48 rfl rfl 1 rfl ?_
        refine j_iload_n (q := 50) hC dX5_mask_49 rfl rfl 2 rfl ?_
        refine j_iload (q := 52) hC dX5_mask_50 rfl 4 rfl ?_
        refine j_callS (q := 55) hC [.ref q_now_words, .int b1, .int b2, .int b4] [] (fun x3 : Int64 => some (.long x3)) (fun x3 => [(q_now_words, .inl (E.2.1 0, 256, .inl s_now_words))]) (fun x3 => [(q_this, .inr (4, [v_tape, .int s_taped, v_plan, v_spare, .int s_hasCache, v_teller, .ref q_now, v_trial, v_past, v_images, .int s_imaged, .int s_refusal])), (q_now, .inr (2, [.int s_now_sets, .int s_now_ways, .int s_now_weighed, .int s_now_plain, v_now_memory, .ref q_now_words, v_now_used, v_now_last, v_now_shape, v_now_dirty, .int s_now_clock, .int s_now_hits, .int s_now_victims, .int s_now_backs])), (q_now_words, .inl (E.2.1 0, 256, .inl s_now_words))]) (fun x3 => [.long x3]) [2] [0, 1] hf (fun x3 hx => wX2_lane E 256 q_now_words s_now_words b1 b2 b4 x3  hx) zy_X2_lane zw_543 (by unfold zRm; decide) rfl rfl (fun _ => rfl) (N := 3) (by decide) (fun _ => ⟨rfl, rfl, rfl⟩) rfl (Nat.le_of_ble_eq_true rfl) dX5_mask_52 rfl rfl (fun _ => rfl) (fun x3 hf => ?_)
        refine j_iload_n (q := 56) hC dX5_mask_55 rfl rfl 2 rfl ?_
        refine j_callS (q := 59) hC [.long x3, .int b2] [] (fun x4 : Int32 => some (.int x4)) (fun x4 => []) (fun x4 => [(q_this, .inr (4, [v_tape, .int s_taped, v_plan, v_spare, .int s_hasCache, v_teller, .ref q_now, v_trial, v_past, v_images, .int s_imaged, .int s_refusal])), (q_now, .inr (2, [.int s_now_sets, .int s_now_ways, .int s_now_weighed, .int s_now_plain, v_now_memory, .ref q_now_words, v_now_used, v_now_last, v_now_shape, v_now_dirty, .int s_now_clock, .int s_now_hits, .int s_now_victims, .int s_now_backs])), (q_now_words, .inl (E.2.1 0, 256, .inl s_now_words))]) (fun x4 => [.int x4]) [] [0, 1, 2] hf (fun x4 hx => wX2_isSmall E x3 b2 x4  hx) zy_X2_isSmall zw_544 (by unfold zRm; decide) rfl rfl (fun _ => rfl) (N := 3) (by decide) (fun _ => ⟨rfl, rfl, rfl⟩) rfl (Nat.le_of_ble_eq_true rfl) dX5_mask_56 rfl rfl (fun _ => rfl) (fun x4 hf => ?_)
        refine j_if_eq (tgt := 69) (q := 62) hC dX5_mask_59 (by decide) rfl hf (fun _ hf => ?_) (fun _ hf => ?_)
        · refine j_iinc (q := 72) (v := 1) hC (fun x5 => [(4, .int x5), (0, .ref q_this), (1, .int b1), (2, .int b2), (3, .int b3)]) dX5_mask_69 rfl 4 rfl (by decide) (by decide) (fun _ => rfl) hf (fun x5 hf => ?_)
          refine j_goto (tgt := 32) hC dX5_mask_72 (by decide) ?_
          refine j_sub (lv' := [(0, .ref q_this), (1, .int b1), (2, .int b2), (3, .int b3), (4, .int x5)]) [1, 2, 3, 4, 0] rfl ?_
          exact ih b1 b2 b3 x5 s_refusal hf
        · refine j_iload_n (q := 63) hC dX5_mask_62 rfl rfl 3 rfl ?_
          refine j_iconst (q := 64) (v := 1) hC dX5_mask_63 rfl (by decide) ?_
          refine j_iload (q := 66) hC dX5_mask_64 rfl 4 rfl ?_
          refine j_ishl (q := 67) hC dX5_mask_66 rfl hf (fun x6 hf => ?_)
          refine j_ior (q := 68) hC dX5_mask_67 rfl hf (fun x7 hf => ?_)
          refine j_istore_n (q := 69) (lv' := [(3, .int x7), (0, .ref q_this), (1, .int b1), (2, .int b2), (4, .int b4)]) hC dX5_mask_68 rfl rfl (by decide) rfl ?_
          refine j_iinc (q := 72) (v := 1) hC (fun x8 => [(4, .int x8), (3, .int x7), (0, .ref q_this), (1, .int b1), (2, .int b2)]) dX5_mask_69 rfl 4 rfl (by decide) (by decide) (fun _ => rfl) hf (fun x8 hf => ?_)
          refine j_goto (tgt := 32) hC dX5_mask_72 (by decide) ?_
          refine j_sub (lv' := [(0, .ref q_this), (1, .int b1), (2, .int b2), (3, .int x7), (4, .int x8)]) [2, 3, 4, 1, 0] rfl ?_
          exact ih b1 b2 x7 x8 s_refusal hf
  unfold fX5_mask at hf
  refine j_sub (lv' := [(0, .ref q_this), (1, .int a1), (2, .int a2)]) [0, 1, 2] rfl ?_
  refine j_aload_n (q := 1) hC dX5_mask_0 rfl rfl 0 rfl ?_
  refine j_iload_n (q := 2) hC dX5_mask_1 rfl rfl 1 rfl ?_
  refine j_callV (q := 5) hC [.int a1] [] (fun x1 : Int32 => some (.int x1)) (fun x1 => [(q_this, .inr (4, [v_tape, .int s_taped, v_plan, v_spare, .int s_hasCache, v_teller, .ref q_now, v_trial, v_past, v_images, .int s_imaged, .int s_refusal]))]) (fun x1 => [(q_this, .inr (4, [v_tape, .int s_taped, v_plan, v_spare, .int s_hasCache, v_teller, .ref q_now, v_trial, v_past, v_images, .int s_imaged, .int s_refusal])), (q_now, .inr (2, [.int s_now_sets, .int s_now_ways, .int s_now_weighed, .int s_now_plain, v_now_memory, .ref q_now_words, v_now_used, v_now_last, v_now_shape, v_now_dirty, .int s_now_clock, .int s_now_hits, .int s_now_victims, .int s_now_backs])), (q_now_words, .inl (E.2.1 0, 256, .inl s_now_words))]) (fun x1 => [.int x1]) [0] [1, 2] hf (fun x1 hx => wX5_isLine E q_this s_taped s_hasCache s_imaged s_refusal (v_tape) (v_plan) (v_spare) (v_teller) (.ref q_now) (v_trial) (v_past) (v_images) a1 x1  hx) zy_X5_isLine zw_474 (by unfold zRm; decide) rfl rfl (fun _ => rfl) (N := 3) (by decide) (fun _ => ⟨rfl, rfl, rfl⟩) rfl rfl rfl (Nat.le_of_ble_eq_true rfl) dX5_mask_2 rfl rfl (fun _ => rfl) (fun x1 hf => ?_)
  refine j_if_ne (tgt := 14) (q := 8) hC dX5_mask_5 (by decide) rfl hf (fun _ hf => ?_) (fun _ hf => ?_)
  · refine j_iload_n (q := 15) hC dX5_mask_14 rfl rfl 2 rfl ?_
    refine j_callS (q := 18) hC [.int a2] [] (fun x2 : Int32 => some (.int x2)) (fun x2 => []) (fun x2 => [(q_this, .inr (4, [v_tape, .int s_taped, v_plan, v_spare, .int s_hasCache, v_teller, .ref q_now, v_trial, v_past, v_images, .int s_imaged, .int s_refusal])), (q_now, .inr (2, [.int s_now_sets, .int s_now_ways, .int s_now_weighed, .int s_now_plain, v_now_memory, .ref q_now_words, v_now_used, v_now_last, v_now_shape, v_now_dirty, .int s_now_clock, .int s_now_hits, .int s_now_victims, .int s_now_backs])), (q_now_words, .inl (E.2.1 0, 256, .inl s_now_words))]) (fun x2 => [.int x2]) [] [0, 1, 2] hf (fun x2 hx => wX5_isBased E a2 x2  hx) zy_X5_isBased zw_532 (by unfold zRm; decide) rfl rfl (fun _ => rfl) (N := 3) (by decide) (fun _ => ⟨rfl, rfl, rfl⟩) rfl (Nat.le_of_ble_eq_true rfl) dX5_mask_15 rfl rfl (fun _ => rfl) (fun x2 hf => ?_)
    refine j_if_ne (tgt := 27) (q := 21) hC dX5_mask_18 (by decide) rfl hf (fun _ hf => ?_) (fun _ hf => ?_)
    · refine j_iconst (q := 28) (v := 0) hC dX5_mask_27 rfl (by decide) ?_
      refine j_istore_n (q := 29) (lv' := [(3, .int 0), (0, .ref q_this), (1, .int a1), (2, .int a2)]) hC dX5_mask_28 rfl rfl (by decide) rfl ?_
      refine j_iconst (q := 30) (v := 0) hC dX5_mask_29 rfl (by decide) ?_
      refine j_istore (q := 32) (lv' := [(4, .int 0), (3, .int 0), (0, .ref q_this), (1, .int a1), (2, .int a2)]) hC dX5_mask_30 rfl (by decide) rfl ?_
      refine j_sub (lv' := [(0, .ref q_this), (1, .int a1), (2, .int a2), (3, .int 0), (4, .int 0)]) [2, 3, 4, 1, 0] rfl ?_
      exact B32  zF a1 a2 0 0 s_refusal hf
    · refine j_aload_n (q := 22) hC dX5_mask_21 rfl rfl 0 rfl ?_
      refine j_iconst (q := 23) (v := 2) hC dX5_mask_22 rfl (by decide) ?_
      refine j_callV (q := 26) hC [.int 2] [] (fun x3 : Int32 × Int32 => some (.int x3.1)) (fun x3 => [(q_this, .inr (4, [v_tape, .int s_taped, v_plan, v_spare, .int s_hasCache, v_teller, .ref q_now, v_trial, v_past, v_images, .int s_imaged, .int x3.2]))]) (fun x3 => [(q_this, .inr (4, [v_tape, .int s_taped, v_plan, v_spare, .int s_hasCache, v_teller, .ref q_now, v_trial, v_past, v_images, .int s_imaged, .int x3.2])), (q_now, .inr (2, [.int s_now_sets, .int s_now_ways, .int s_now_weighed, .int s_now_plain, v_now_memory, .ref q_now_words, v_now_used, v_now_last, v_now_shape, v_now_dirty, .int s_now_clock, .int s_now_hits, .int s_now_victims, .int s_now_backs])), (q_now_words, .inl (E.2.1 0, 256, .inl s_now_words))]) (fun x3 => [.int x3.1]) [0] [1, 2] hf (fun x3 hx => wX5_refuse E q_this s_taped s_hasCache s_imaged s_refusal (v_tape) (v_plan) (v_spare) (v_teller) (.ref q_now) (v_trial) (v_past) (v_images) 2 x3  hx) zy_X5_refuse zw_291 (by unfold zRm; decide) rfl rfl (fun _ => rfl) (N := 3) (by decide) (fun _ => ⟨rfl, rfl, rfl⟩) rfl rfl rfl (Nat.le_of_ble_eq_true rfl) dX5_mask_23 rfl rfl (fun _ => rfl) (fun x3 hf => ?_)
      have hx := Option.some.inj hf
      exact j_iret hC hR dX5_mask_26 (by rw [← hx]) (by rw [← hx])
  · refine j_aload_n (q := 9) hC dX5_mask_8 rfl rfl 0 rfl ?_
    refine j_iconst (q := 10) (v := 1) hC dX5_mask_9 rfl (by decide) ?_
    refine j_callV (q := 13) hC [.int 1] [] (fun x4 : Int32 × Int32 => some (.int x4.1)) (fun x4 => [(q_this, .inr (4, [v_tape, .int s_taped, v_plan, v_spare, .int s_hasCache, v_teller, .ref q_now, v_trial, v_past, v_images, .int s_imaged, .int x4.2]))]) (fun x4 => [(q_this, .inr (4, [v_tape, .int s_taped, v_plan, v_spare, .int s_hasCache, v_teller, .ref q_now, v_trial, v_past, v_images, .int s_imaged, .int x4.2])), (q_now, .inr (2, [.int s_now_sets, .int s_now_ways, .int s_now_weighed, .int s_now_plain, v_now_memory, .ref q_now_words, v_now_used, v_now_last, v_now_shape, v_now_dirty, .int s_now_clock, .int s_now_hits, .int s_now_victims, .int s_now_backs])), (q_now_words, .inl (E.2.1 0, 256, .inl s_now_words))]) (fun x4 => [.int x4.1]) [0] [1, 2] hf (fun x4 hx => wX5_refuse E q_this s_taped s_hasCache s_imaged s_refusal (v_tape) (v_plan) (v_spare) (v_teller) (.ref q_now) (v_trial) (v_past) (v_images) 1 x4  hx) zy_X5_refuse zw_291 (by unfold zRm; decide) rfl rfl (fun _ => rfl) (N := 3) (by decide) (fun _ => ⟨rfl, rfl, rfl⟩) rfl rfl rfl (Nat.le_of_ble_eq_true rfl) dX5_mask_10 rfl rfl (fun _ => rfl) (fun x4 hf => ?_)
    have hx := Option.some.inj hf
    exact j_iret hC hR dX5_mask_13 (by rw [← hx]) (by rw [← hx])
noncomputable def fX5_difference_41 (s_hasCache : Int32) (s_now_words : (Nat → Int32))  (s_refusal : Int32) : Option (Int64 × Int32) :=
  (fX5_refuse s_refusal 1).bind fun x1 =>
    zlet (Int32.toInt64 x1.1 : Int64) fun x2 =>
    some (x2, x1.2)
noncomputable def fX5_difference (s_hasCache : Int32) (s_refusal : Int32) (s_now_words : (Nat → Int32)) (a1 : Int32) (a2 : Int32) (a3 : Int32) : Option (Int64 × Int32) :=
  (fX5_isLine s_hasCache a1).bind fun x1 =>
    if x1 = 0 then ((fX5_refuse s_refusal 1).bind fun x10 =>
    zlet (Int32.toInt64 x10.1 : Int64) fun x11 =>
    some (x11, x10.2))
    else ((fX5_isBased a2).bind fun x2 =>
    if x2 = 0 then ((fX5_refuse s_refusal 2).bind fun x8 =>
    zlet (Int32.toInt64 x8.1 : Int64) fun x9 =>
    some (x9, x8.2))
    else (if a3 < 0 then (fX5_difference_41 s_hasCache s_now_words  s_refusal)
    else ((fX2_lanesOf a2).bind fun x3 =>
    if a3 < x3 then ((fX2_lane 256 s_now_words a1 a2 a3).bind fun x4 =>
    (fX2_isSmall x4 a2).bind fun x5 =>
    if x5 = 0 then ((fX2_baseOf 256 s_now_words a1 a2).bind fun x6 =>
    zlet (x4 - x6 : Int64) fun x7 =>
    some (x7, 0))
    else (some (x4, 0)))
    else (fX5_difference_41 s_hasCache s_now_words  s_refusal))))
set_option maxHeartbeats 4000000 in
set_option maxRecDepth 100000 in
theorem wX5_difference (E : zE) (q_this : Nat) (q_now : Nat) (q_now_words : Nat) (s_taped : Int32) (s_hasCache : Int32) (s_imaged : Int32) (s_refusal : Int32) (s_now_sets : Int32) (s_now_ways : Int32) (s_now_weighed : Int32) (s_now_plain : Int32) (s_now_clock : Int32) (s_now_hits : Int32) (s_now_victims : Int32) (s_now_backs : Int32) (s_now_words : (Nat → Int32)) (v_tape : Value) (v_plan : Value) (v_spare : Value) (v_teller : Value) (v_trial : Value) (v_past : Value) (v_images : Value) (v_now_memory : Value) (v_now_used : Value) (v_now_last : Value) (v_now_shape : Value) (v_now_dirty : Value) (a1 : Int32) (a2 : Int32) (a3 : Int32) (x : Int64 × Int32) (hf : fX5_difference s_hasCache s_refusal s_now_words a1 a2 a3 = some x) (l : Launch) (sz : Nat) : zM l yX5_difference cX5_difference 6 (some .long) { frames := 2, cells := 0, slots := 0, locals := 53 } E [.ref q_this, .int a1, .int a2, .int a3] [(q_this, .inr (4, [v_tape, .int s_taped, v_plan, v_spare, .int s_hasCache, v_teller, .ref q_now, v_trial, v_past, v_images, .int s_imaged, .int s_refusal])), (q_now, .inr (2, [.int s_now_sets, .int s_now_ways, .int s_now_weighed, .int s_now_plain, v_now_memory, .ref q_now_words, v_now_used, v_now_last, v_now_shape, v_now_dirty, .int s_now_clock, .int s_now_hits, .int s_now_victims, .int s_now_backs])), (q_now_words, .inl (E.2.1 0, 256, .inl s_now_words))] sz (some (.long x.1)) [(q_this, .inr (4, [v_tape, .int s_taped, v_plan, v_spare, .int s_hasCache, v_teller, .ref q_now, v_trial, v_past, v_images, .int s_imaged, .int x.2])), (q_now, .inr (2, [.int s_now_sets, .int s_now_ways, .int s_now_weighed, .int s_now_plain, v_now_memory, .ref q_now_words, v_now_used, v_now_last, v_now_shape, v_now_dirty, .int s_now_clock, .int s_now_hits, .int s_now_victims, .int s_now_backs])), (q_now_words, .inl (E.2.1 0, 256, .inl s_now_words))] := by
  refine zEnter (by decide) (Nat.le_of_ble_eq_true rfl) ?_
  intro C hC hR
  change zC C E cX5_difference "PackedCache" 6 _ at hC
  have B41 : ∀ (s_refusal : Int32), fX5_difference_41 s_hasCache s_now_words  s_refusal = some x → J C 0 0 [(q_this, .inr (4, [v_tape, .int s_taped, v_plan, v_spare, .int s_hasCache, v_teller, .ref q_now, v_trial, v_past, v_images, .int s_imaged, .int s_refusal])), (q_now, .inr (2, [.int s_now_sets, .int s_now_ways, .int s_now_weighed, .int s_now_plain, v_now_memory, .ref q_now_words, v_now_used, v_now_last, v_now_shape, v_now_dirty, .int s_now_clock, .int s_now_hits, .int s_now_victims, .int s_now_backs])), (q_now_words, .inl (E.2.1 0, 256, .inl s_now_words))] [(0, .ref q_this)] 41 [] := by
    intro  s_refusal hf
    unfold fX5_difference_41 at hf
    refine j_aload_n (q := 42) hC dX5_difference_41 rfl rfl 0 rfl ?_
    refine j_iconst (q := 43) (v := 1) hC dX5_difference_42 rfl (by decide) ?_
    refine j_callV (q := 46) hC [.int 1] [] (fun x1 : Int32 × Int32 => some (.int x1.1)) (fun x1 => [(q_this, .inr (4, [v_tape, .int s_taped, v_plan, v_spare, .int s_hasCache, v_teller, .ref q_now, v_trial, v_past, v_images, .int s_imaged, .int x1.2]))]) (fun x1 => [(q_this, .inr (4, [v_tape, .int s_taped, v_plan, v_spare, .int s_hasCache, v_teller, .ref q_now, v_trial, v_past, v_images, .int s_imaged, .int x1.2])), (q_now, .inr (2, [.int s_now_sets, .int s_now_ways, .int s_now_weighed, .int s_now_plain, v_now_memory, .ref q_now_words, v_now_used, v_now_last, v_now_shape, v_now_dirty, .int s_now_clock, .int s_now_hits, .int s_now_victims, .int s_now_backs])), (q_now_words, .inl (E.2.1 0, 256, .inl s_now_words))]) (fun x1 => [.int x1.1]) [0] [1, 2] hf (fun x1 hx => wX5_refuse E q_this s_taped s_hasCache s_imaged s_refusal (v_tape) (v_plan) (v_spare) (v_teller) (.ref q_now) (v_trial) (v_past) (v_images) 1 x1  hx) zy_X5_refuse zw_291 (by unfold zRm; decide) rfl rfl (fun _ => rfl) (N := 3) (by decide) (fun _ => ⟨rfl, rfl, rfl⟩) rfl rfl rfl (Nat.le_of_ble_eq_true rfl) dX5_difference_43 rfl rfl (fun _ => rfl) (fun x1 hf => ?_)
    refine j_i2l (q := 47) hC dX5_difference_46 rfl hf (fun x2 hf => ?_)
    have hx := Option.some.inj hf
    exact j_lret hC hR dX5_difference_47 (by rw [← hx]) (by rw [← hx])
  unfold fX5_difference at hf
  refine j_sub (lv' := [(0, .ref q_this), (1, .int a1), (2, .int a2), (3, .int a3)]) [0, 1, 2, 3] rfl ?_
  refine j_aload_n (q := 1) hC dX5_difference_0 rfl rfl 0 rfl ?_
  refine j_iload_n (q := 2) hC dX5_difference_1 rfl rfl 1 rfl ?_
  refine j_callV (q := 5) hC [.int a1] [] (fun x1 : Int32 => some (.int x1)) (fun x1 => [(q_this, .inr (4, [v_tape, .int s_taped, v_plan, v_spare, .int s_hasCache, v_teller, .ref q_now, v_trial, v_past, v_images, .int s_imaged, .int s_refusal]))]) (fun x1 => [(q_this, .inr (4, [v_tape, .int s_taped, v_plan, v_spare, .int s_hasCache, v_teller, .ref q_now, v_trial, v_past, v_images, .int s_imaged, .int s_refusal])), (q_now, .inr (2, [.int s_now_sets, .int s_now_ways, .int s_now_weighed, .int s_now_plain, v_now_memory, .ref q_now_words, v_now_used, v_now_last, v_now_shape, v_now_dirty, .int s_now_clock, .int s_now_hits, .int s_now_victims, .int s_now_backs])), (q_now_words, .inl (E.2.1 0, 256, .inl s_now_words))]) (fun x1 => [.int x1]) [0] [1, 2] hf (fun x1 hx => wX5_isLine E q_this s_taped s_hasCache s_imaged s_refusal (v_tape) (v_plan) (v_spare) (v_teller) (.ref q_now) (v_trial) (v_past) (v_images) a1 x1  hx) zy_X5_isLine zw_474 (by unfold zRm; decide) rfl rfl (fun _ => rfl) (N := 3) (by decide) (fun _ => ⟨rfl, rfl, rfl⟩) rfl rfl rfl (Nat.le_of_ble_eq_true rfl) dX5_difference_2 rfl rfl (fun _ => rfl) (fun x1 hf => ?_)
  refine j_if_ne (tgt := 15) (q := 8) hC dX5_difference_5 (by decide) rfl hf (fun _ hf => ?_) (fun _ hf => ?_)
  · refine j_iload_n (q := 16) hC dX5_difference_15 rfl rfl 2 rfl ?_
    refine j_callS (q := 19) hC [.int a2] [] (fun x2 : Int32 => some (.int x2)) (fun x2 => []) (fun x2 => [(q_this, .inr (4, [v_tape, .int s_taped, v_plan, v_spare, .int s_hasCache, v_teller, .ref q_now, v_trial, v_past, v_images, .int s_imaged, .int s_refusal])), (q_now, .inr (2, [.int s_now_sets, .int s_now_ways, .int s_now_weighed, .int s_now_plain, v_now_memory, .ref q_now_words, v_now_used, v_now_last, v_now_shape, v_now_dirty, .int s_now_clock, .int s_now_hits, .int s_now_victims, .int s_now_backs])), (q_now_words, .inl (E.2.1 0, 256, .inl s_now_words))]) (fun x2 => [.int x2]) [] [0, 1, 2] hf (fun x2 hx => wX5_isBased E a2 x2  hx) zy_X5_isBased zw_532 (by unfold zRm; decide) rfl rfl (fun _ => rfl) (N := 3) (by decide) (fun _ => ⟨rfl, rfl, rfl⟩) rfl (Nat.le_of_ble_eq_true rfl) dX5_difference_16 rfl rfl (fun _ => rfl) (fun x2 hf => ?_)
    refine j_if_ne (tgt := 29) (q := 22) hC dX5_difference_19 (by decide) rfl hf (fun _ hf => ?_) (fun _ hf => ?_)
    · refine j_iload_n (q := 30) hC dX5_difference_29 rfl rfl 3 rfl ?_
      refine j_if_lt (tgt := 41) (q := 33) hC dX5_difference_30 (by decide) rfl hf (fun _ hf => ?_) (fun _ hf => ?_)
      · refine j_sub (lv' := [(0, .ref q_this)]) [0] rfl ?_
        exact B41  s_refusal hf
      · refine j_iload_n (q := 34) hC dX5_difference_33 rfl rfl 3 rfl ?_
        refine j_iload_n (q := 35) hC dX5_difference_34 rfl rfl 2 rfl ?_
        refine j_callS (q := 38) hC [.int a2] [.int a3] (fun x3 : Int32 => some (.int x3)) (fun x3 => []) (fun x3 => [(q_this, .inr (4, [v_tape, .int s_taped, v_plan, v_spare, .int s_hasCache, v_teller, .ref q_now, v_trial, v_past, v_images, .int s_imaged, .int s_refusal])), (q_now, .inr (2, [.int s_now_sets, .int s_now_ways, .int s_now_weighed, .int s_now_plain, v_now_memory, .ref q_now_words, v_now_used, v_now_last, v_now_shape, v_now_dirty, .int s_now_clock, .int s_now_hits, .int s_now_victims, .int s_now_backs])), (q_now_words, .inl (E.2.1 0, 256, .inl s_now_words))]) (fun x3 => [.int x3, .int a3]) [] [0, 1, 2] hf (fun x3 hx => wX2_lanesOf E a2 x3  hx) zy_X2_lanesOf zw_542 (by unfold zRm; decide) rfl rfl (fun _ => rfl) (N := 3) (by decide) (fun _ => ⟨rfl, rfl, rfl⟩) rfl (Nat.le_of_ble_eq_true rfl) dX5_difference_35 rfl rfl (fun _ => rfl) (fun x3 hf => ?_)
        refine j_icmp_lt (tgt := 48) (q := 41) hC dX5_difference_38 (by decide) rfl hf (fun _ hf => ?_) (fun _ hf => ?_)
        · refine j_aload_n (q := 49) hC dX5_difference_48 rfl rfl 0 rfl ?_
          refine j_iconst (q := 50) (v := 0) hC dX5_difference_49 rfl (by decide) ?_
          refine j_put (q := 53) (host := "") hC zcl_X5 0 11 (ws' := [(q_this, .inr (4, [v_tape, .int s_taped, v_plan, v_spare, .int s_hasCache, v_teller, .ref q_now, v_trial, v_past, v_images, .int s_imaged, .int 0])), (q_now, .inr (2, [.int s_now_sets, .int s_now_ways, .int s_now_weighed, .int s_now_plain, v_now_memory, .ref q_now_words, v_now_used, v_now_last, v_now_shape, v_now_dirty, .int s_now_clock, .int s_now_hits, .int s_now_victims, .int s_now_backs])), (q_now_words, .inl (E.2.1 0, 256, .inl s_now_words))]) zw_253 ⟨rfl, rfl, by decide, rfl⟩ rfl rfl rfl (Nat.le_of_ble_eq_true rfl) rfl dX5_difference_50 rfl ?_
          refine j_aload_n (q := 54) hC dX5_difference_53 rfl rfl 0 rfl ?_
          refine j_get (q := 57) hC zcl_X5 0 6 zw_248 ⟨rfl, rfl, by decide⟩ rfl rfl dX5_difference_54 rfl ?_
          refine j_getN (q := 60) hC zcl_X3 1 5 zn_172 ⟨rfl, rfl, by decide⟩ rfl rfl dX5_difference_57 rfl ?_
          refine j_iload_n (q := 61) hC dX5_difference_60 rfl rfl 1 rfl ?_
          refine j_iload_n (q := 62) hC dX5_difference_61 rfl rfl 2 rfl ?_
          refine j_iload_n (q := 63) hC dX5_difference_62 rfl rfl 3 rfl ?_
          refine j_callS (q := 66) hC [.ref q_now_words, .int a1, .int a2, .int a3] [] (fun x4 : Int64 => some (.long x4)) (fun x4 => [(q_now_words, .inl (E.2.1 0, 256, .inl s_now_words))]) (fun x4 => [(q_this, .inr (4, [v_tape, .int s_taped, v_plan, v_spare, .int s_hasCache, v_teller, .ref q_now, v_trial, v_past, v_images, .int s_imaged, .int 0])), (q_now, .inr (2, [.int s_now_sets, .int s_now_ways, .int s_now_weighed, .int s_now_plain, v_now_memory, .ref q_now_words, v_now_used, v_now_last, v_now_shape, v_now_dirty, .int s_now_clock, .int s_now_hits, .int s_now_victims, .int s_now_backs])), (q_now_words, .inl (E.2.1 0, 256, .inl s_now_words))]) (fun x4 => [.long x4]) [2] [0, 1] hf (fun x4 hx => wX2_lane E 256 q_now_words s_now_words a1 a2 a3 x4  hx) zy_X2_lane zw_543 (by unfold zRm; decide) rfl rfl (fun _ => rfl) (N := 3) (by decide) (fun _ => ⟨rfl, rfl, rfl⟩) rfl (Nat.le_of_ble_eq_true rfl) dX5_difference_63 rfl rfl (fun _ => rfl) (fun x4 hf => ?_)
          refine j_lstore (q := 68) (lv' := [(4, .long x4), (0, .ref q_this), (1, .int a1), (2, .int a2), (3, .int a3)]) hC dX5_difference_66 rfl (by decide) rfl ?_
          refine j_lload (q := 70) hC dX5_difference_68 rfl 0 rfl ?_
          refine j_iload_n (q := 71) hC dX5_difference_70 rfl rfl 3 rfl ?_
          refine j_callS (q := 74) hC [.long x4, .int a2] [] (fun x5 : Int32 => some (.int x5)) (fun x5 => []) (fun x5 => [(q_this, .inr (4, [v_tape, .int s_taped, v_plan, v_spare, .int s_hasCache, v_teller, .ref q_now, v_trial, v_past, v_images, .int s_imaged, .int 0])), (q_now, .inr (2, [.int s_now_sets, .int s_now_ways, .int s_now_weighed, .int s_now_plain, v_now_memory, .ref q_now_words, v_now_used, v_now_last, v_now_shape, v_now_dirty, .int s_now_clock, .int s_now_hits, .int s_now_victims, .int s_now_backs])), (q_now_words, .inl (E.2.1 0, 256, .inl s_now_words))]) (fun x5 => [.int x5]) [] [0, 1, 2] hf (fun x5 hx => wX2_isSmall E x4 a2 x5  hx) zy_X2_isSmall zw_544 (by unfold zRm; decide) rfl rfl (fun _ => rfl) (N := 3) (by decide) (fun _ => ⟨rfl, rfl, rfl⟩) rfl (Nat.le_of_ble_eq_true rfl) dX5_difference_71 rfl rfl (fun _ => rfl) (fun x5 hf => ?_)
          refine j_if_eq (tgt := 82) (q := 77) hC dX5_difference_74 (by decide) rfl hf (fun _ hf => ?_) (fun _ hf => ?_)
          · refine j_lload (q := 84) hC dX5_difference_82 rfl 0 rfl ?_
            refine j_aload_n (q := 85) hC dX5_difference_84 rfl rfl 1 rfl ?_
            refine j_get (q := 88) hC zcl_X5 0 6 zw_248 ⟨rfl, rfl, by decide⟩ rfl rfl dX5_difference_85 rfl ?_
            refine j_getN (q := 91) hC zcl_X3 1 5 zn_172 ⟨rfl, rfl, by decide⟩ rfl rfl dX5_difference_88 rfl ?_
            refine j_iload_n (q := 92) hC dX5_difference_91 rfl rfl 2 rfl ?_
            refine j_iload_n (q := 93) hC dX5_difference_92 rfl rfl 3 rfl ?_
            refine j_callS (q := 96) hC [.ref q_now_words, .int a1, .int a2] [.long x4] (fun x6 : Int64 => some (.long x6)) (fun x6 => [(q_now_words, .inl (E.2.1 0, 256, .inl s_now_words))]) (fun x6 => [(q_this, .inr (4, [v_tape, .int s_taped, v_plan, v_spare, .int s_hasCache, v_teller, .ref q_now, v_trial, v_past, v_images, .int s_imaged, .int 0])), (q_now, .inr (2, [.int s_now_sets, .int s_now_ways, .int s_now_weighed, .int s_now_plain, v_now_memory, .ref q_now_words, v_now_used, v_now_last, v_now_shape, v_now_dirty, .int s_now_clock, .int s_now_hits, .int s_now_victims, .int s_now_backs])), (q_now_words, .inl (E.2.1 0, 256, .inl s_now_words))]) (fun x6 => [.long x6, .long x4]) [2] [0, 1] hf (fun x6 hx => wX2_baseOf E 256 q_now_words s_now_words a1 a2 x6  hx) zy_X2_baseOf zw_535 (by unfold zRm; decide) rfl rfl (fun _ => rfl) (N := 3) (by decide) (fun _ => ⟨rfl, rfl, rfl⟩) rfl (Nat.le_of_ble_eq_true rfl) dX5_difference_93 rfl rfl (fun _ => rfl) (fun x6 hf => ?_)
            refine j_lsub (q := 97) hC dX5_difference_96 rfl hf (fun x7 hf => ?_)
            have hx := Option.some.inj hf
            exact j_lret hC hR dX5_difference_97 (by rw [← hx]) (by rw [← hx])
          · refine j_lload (q := 79) hC dX5_difference_77 rfl 0 rfl ?_
            refine j_goto (tgt := 97) hC dX5_difference_79 (by decide) ?_
            have hx := Option.some.inj hf
            exact j_lret hC hR dX5_difference_97 (by rw [← hx]) (by rw [← hx])
        · refine j_sub (lv' := [(0, .ref q_this)]) [0] rfl ?_
          exact B41  s_refusal hf
    · refine j_aload_n (q := 23) hC dX5_difference_22 rfl rfl 0 rfl ?_
      refine j_iconst (q := 24) (v := 2) hC dX5_difference_23 rfl (by decide) ?_
      refine j_callV (q := 27) hC [.int 2] [] (fun x8 : Int32 × Int32 => some (.int x8.1)) (fun x8 => [(q_this, .inr (4, [v_tape, .int s_taped, v_plan, v_spare, .int s_hasCache, v_teller, .ref q_now, v_trial, v_past, v_images, .int s_imaged, .int x8.2]))]) (fun x8 => [(q_this, .inr (4, [v_tape, .int s_taped, v_plan, v_spare, .int s_hasCache, v_teller, .ref q_now, v_trial, v_past, v_images, .int s_imaged, .int x8.2])), (q_now, .inr (2, [.int s_now_sets, .int s_now_ways, .int s_now_weighed, .int s_now_plain, v_now_memory, .ref q_now_words, v_now_used, v_now_last, v_now_shape, v_now_dirty, .int s_now_clock, .int s_now_hits, .int s_now_victims, .int s_now_backs])), (q_now_words, .inl (E.2.1 0, 256, .inl s_now_words))]) (fun x8 => [.int x8.1]) [0] [1, 2] hf (fun x8 hx => wX5_refuse E q_this s_taped s_hasCache s_imaged s_refusal (v_tape) (v_plan) (v_spare) (v_teller) (.ref q_now) (v_trial) (v_past) (v_images) 2 x8  hx) zy_X5_refuse zw_291 (by unfold zRm; decide) rfl rfl (fun _ => rfl) (N := 3) (by decide) (fun _ => ⟨rfl, rfl, rfl⟩) rfl rfl rfl (Nat.le_of_ble_eq_true rfl) dX5_difference_24 rfl rfl (fun _ => rfl) (fun x8 hf => ?_)
      refine j_i2l (q := 28) hC dX5_difference_27 rfl hf (fun x9 hf => ?_)
      have hx := Option.some.inj hf
      exact j_lret hC hR dX5_difference_28 (by rw [← hx]) (by rw [← hx])
  · refine j_aload_n (q := 9) hC dX5_difference_8 rfl rfl 0 rfl ?_
    refine j_iconst (q := 10) (v := 1) hC dX5_difference_9 rfl (by decide) ?_
    refine j_callV (q := 13) hC [.int 1] [] (fun x10 : Int32 × Int32 => some (.int x10.1)) (fun x10 => [(q_this, .inr (4, [v_tape, .int s_taped, v_plan, v_spare, .int s_hasCache, v_teller, .ref q_now, v_trial, v_past, v_images, .int s_imaged, .int x10.2]))]) (fun x10 => [(q_this, .inr (4, [v_tape, .int s_taped, v_plan, v_spare, .int s_hasCache, v_teller, .ref q_now, v_trial, v_past, v_images, .int s_imaged, .int x10.2])), (q_now, .inr (2, [.int s_now_sets, .int s_now_ways, .int s_now_weighed, .int s_now_plain, v_now_memory, .ref q_now_words, v_now_used, v_now_last, v_now_shape, v_now_dirty, .int s_now_clock, .int s_now_hits, .int s_now_victims, .int s_now_backs])), (q_now_words, .inl (E.2.1 0, 256, .inl s_now_words))]) (fun x10 => [.int x10.1]) [0] [1, 2] hf (fun x10 hx => wX5_refuse E q_this s_taped s_hasCache s_imaged s_refusal (v_tape) (v_plan) (v_spare) (v_teller) (.ref q_now) (v_trial) (v_past) (v_images) 1 x10  hx) zy_X5_refuse zw_291 (by unfold zRm; decide) rfl rfl (fun _ => rfl) (N := 3) (by decide) (fun _ => ⟨rfl, rfl, rfl⟩) rfl rfl rfl (Nat.le_of_ble_eq_true rfl) dX5_difference_10 rfl rfl (fun _ => rfl) (fun x10 hf => ?_)
    refine j_i2l (q := 14) hC dX5_difference_13 rfl hf (fun x11 hf => ?_)
    have hx := Option.some.inj hf
    exact j_lret hC hR dX5_difference_14 (by rw [← hx]) (by rw [← hx])
noncomputable def fX5_linesOf_30 (s_hasCache : Int32) (s_now_words : (Nat → Int32))  : Nat → Int32 → Int32 → Int32 → Int32 → Option (Int32 × Int32)
  | 0, _, _, _, _ => none
  | m + 1, b1, b2, b3, s_refusal =>
    if 32 ≤ b3 then ((fX5_pass s_refusal b2).bind fun x1 =>
    some (x1.1, x1.2))
    else ((fX2_shortest 256 s_now_words b3).bind fun x2 =>
    if x2 = b1 then (zlet (b2 + 1) fun x4 =>
    zlet (b3 + 1) fun x5 =>
    fX5_linesOf_30 s_hasCache s_now_words  m b1 x4 x5 s_refusal)
    else (zlet (b3 + 1) fun x3 =>
    fX5_linesOf_30 s_hasCache s_now_words  m b1 b2 x3 s_refusal))
noncomputable def fX5_linesOf (s_hasCache : Int32) (s_refusal : Int32) (s_now_words : (Nat → Int32)) (a1 : Int32) : Option (Int32 × Int32) :=
  if s_hasCache = 0 then ((fX5_refuse s_refusal 1).bind fun x3 =>
    some (x3.1, x3.2))
    else ((fX5_isForm a1).bind fun x1 =>
    if x1 = 0 then ((fX5_refuse s_refusal 2).bind fun x2 =>
    some (x2.1, x2.2))
    else (fX5_linesOf_30 s_hasCache s_now_words  zF a1 0 0 s_refusal))
set_option maxHeartbeats 4000000 in
set_option maxRecDepth 100000 in
theorem wX5_linesOf (E : zE) (q_this : Nat) (q_now : Nat) (q_now_words : Nat) (s_taped : Int32) (s_hasCache : Int32) (s_imaged : Int32) (s_refusal : Int32) (s_now_sets : Int32) (s_now_ways : Int32) (s_now_weighed : Int32) (s_now_plain : Int32) (s_now_clock : Int32) (s_now_hits : Int32) (s_now_victims : Int32) (s_now_backs : Int32) (s_now_words : (Nat → Int32)) (v_tape : Value) (v_plan : Value) (v_spare : Value) (v_teller : Value) (v_trial : Value) (v_past : Value) (v_images : Value) (v_now_memory : Value) (v_now_used : Value) (v_now_last : Value) (v_now_shape : Value) (v_now_dirty : Value) (a1 : Int32) (x : Int32 × Int32) (hf : fX5_linesOf s_hasCache s_refusal s_now_words a1 = some x) (l : Launch) (sz : Nat) : zM l yX5_linesOf cX5_linesOf 4 (some .int) { frames := 3, cells := 0, slots := 0, locals := 78 } E [.ref q_this, .int a1] [(q_this, .inr (4, [v_tape, .int s_taped, v_plan, v_spare, .int s_hasCache, v_teller, .ref q_now, v_trial, v_past, v_images, .int s_imaged, .int s_refusal])), (q_now, .inr (2, [.int s_now_sets, .int s_now_ways, .int s_now_weighed, .int s_now_plain, v_now_memory, .ref q_now_words, v_now_used, v_now_last, v_now_shape, v_now_dirty, .int s_now_clock, .int s_now_hits, .int s_now_victims, .int s_now_backs])), (q_now_words, .inl (E.2.1 0, 256, .inl s_now_words))] sz (some (.int x.1)) [(q_this, .inr (4, [v_tape, .int s_taped, v_plan, v_spare, .int s_hasCache, v_teller, .ref q_now, v_trial, v_past, v_images, .int s_imaged, .int x.2])), (q_now, .inr (2, [.int s_now_sets, .int s_now_ways, .int s_now_weighed, .int s_now_plain, v_now_memory, .ref q_now_words, v_now_used, v_now_last, v_now_shape, v_now_dirty, .int s_now_clock, .int s_now_hits, .int s_now_victims, .int s_now_backs])), (q_now_words, .inl (E.2.1 0, 256, .inl s_now_words))] := by
  refine zEnter (by decide) (Nat.le_of_ble_eq_true rfl) ?_
  intro C hC hR
  change zC C E cX5_linesOf "PackedCache" 4 _ at hC
  have B30 : ∀ (N : Nat), ∀ (b1 : Int32) (b2 : Int32) (b3 : Int32) (s_refusal : Int32), fX5_linesOf_30 s_hasCache s_now_words  N b1 b2 b3 s_refusal = some x → J C 0 0 [(q_this, .inr (4, [v_tape, .int s_taped, v_plan, v_spare, .int s_hasCache, v_teller, .ref q_now, v_trial, v_past, v_images, .int s_imaged, .int s_refusal])), (q_now, .inr (2, [.int s_now_sets, .int s_now_ways, .int s_now_weighed, .int s_now_plain, v_now_memory, .ref q_now_words, v_now_used, v_now_last, v_now_shape, v_now_dirty, .int s_now_clock, .int s_now_hits, .int s_now_victims, .int s_now_backs])), (q_now_words, .inl (E.2.1 0, 256, .inl s_now_words))] [(0, .ref q_this), (1, .int b1), (2, .int b2), (3, .int b3)] 30 [] := by
    intro  N
    induction N with
    | zero =>
      intro b1 b2 b3 s_refusal hf
      rw [fX5_linesOf_30] at hf
      cases hf
    | succ m ih =>
      intro b1 b2 b3 s_refusal hf
      rw [fX5_linesOf_30] at hf
      refine j_iload_n (q := 31) hC dX5_linesOf_30 rfl rfl 3 rfl ?_
      refine j_bipush (q := 33) (v := 32) hC dX5_linesOf_31 rfl (by decide) ?_
      refine j_icmp_ge (tgt := 60) (q := 36) hC dX5_linesOf_33 (by decide) rfl hf (fun _ hf => ?_) (fun _ hf => ?_)
      · refine j_aload_n (q := 61) hC dX5_linesOf_60 rfl rfl 0 rfl ?_
        refine j_iload_n (q := 62) hC dX5_linesOf_61 rfl rfl 2 rfl ?_
        refine j_callV (q := 65) hC [.int b2] [] (fun x1 : Int32 × Int32 => some (.int x1.1)) (fun x1 => [(q_this, .inr (4, [v_tape, .int s_taped, v_plan, v_spare, .int s_hasCache, v_teller, .ref q_now, v_trial, v_past, v_images, .int s_imaged, .int x1.2]))]) (fun x1 => [(q_this, .inr (4, [v_tape, .int s_taped, v_plan, v_spare, .int s_hasCache, v_teller, .ref q_now, v_trial, v_past, v_images, .int s_imaged, .int x1.2])), (q_now, .inr (2, [.int s_now_sets, .int s_now_ways, .int s_now_weighed, .int s_now_plain, v_now_memory, .ref q_now_words, v_now_used, v_now_last, v_now_shape, v_now_dirty, .int s_now_clock, .int s_now_hits, .int s_now_victims, .int s_now_backs])), (q_now_words, .inl (E.2.1 0, 256, .inl s_now_words))]) (fun x1 => [.int x1.1]) [0] [1, 2] hf (fun x1 hx => wX5_pass E q_this s_taped s_hasCache s_imaged s_refusal (v_tape) (v_plan) (v_spare) (v_teller) (.ref q_now) (v_trial) (v_past) (v_images) b2 x1  hx) zy_X5_pass zw_454 (by unfold zRm; decide) rfl rfl (fun _ => rfl) (N := 3) (by decide) (fun _ => ⟨rfl, rfl, rfl⟩) rfl rfl rfl (Nat.le_of_ble_eq_true rfl) dX5_linesOf_62 rfl rfl (fun _ => rfl) (fun x1 hf => ?_)
        have hx := Option.some.inj hf
        exact j_iret hC hR dX5_linesOf_65 (by rw [← hx]) (by rw [← hx])
      · refine j_aload_n (q := 37) hC dX5_linesOf_36 rfl rfl 0 rfl ?_
        refine j_get (q := 40) hC zcl_X5 0 6 zw_248 ⟨rfl, rfl, by decide⟩ rfl rfl dX5_linesOf_37 rfl ?_
        refine j_getN (q := 43) hC zcl_X3 1 5 zn_172 ⟨rfl, rfl, by decide⟩ rfl rfl dX5_linesOf_40 rfl ?_
        refine j_iload_n (q := 44) hC dX5_linesOf_43 rfl rfl 3 rfl ?_
        refine j_callS (q := 47) hC [.ref q_now_words, .int b3] [] (fun x2 : Int32 => some (.int x2)) (fun x2 => [(q_now_words, .inl (E.2.1 0, 256, .inl s_now_words))]) (fun x2 => [(q_this, .inr (4, [v_tape, .int s_taped, v_plan, v_spare, .int s_hasCache, v_teller, .ref q_now, v_trial, v_past, v_images, .int s_imaged, .int s_refusal])), (q_now, .inr (2, [.int s_now_sets, .int s_now_ways, .int s_now_weighed, .int s_now_plain, v_now_memory, .ref q_now_words, v_now_used, v_now_last, v_now_shape, v_now_dirty, .int s_now_clock, .int s_now_hits, .int s_now_victims, .int s_now_backs])), (q_now_words, .inl (E.2.1 0, 256, .inl s_now_words))]) (fun x2 => [.int x2]) [2] [0, 1] hf (fun x2 hx => wX2_shortest E 256 q_now_words s_now_words b3 x2  hx) zy_X2_shortest zw_486 (by unfold zRm; decide) rfl rfl (fun _ => rfl) (N := 3) (by decide) (fun _ => ⟨rfl, rfl, rfl⟩) rfl (Nat.le_of_ble_eq_true rfl) dX5_linesOf_44 rfl rfl (fun _ => rfl) (fun x2 hf => ?_)
        refine j_iload_n (q := 48) hC dX5_linesOf_47 rfl rfl 1 rfl ?_
        refine j_icmp_ne (tgt := 54) (q := 51) hC dX5_linesOf_48 (by decide) rfl hf (fun _ hf => ?_) (fun _ hf => ?_)
        · refine j_iinc (q := 57) (v := 1) hC (fun x3 => [(3, .int x3), (0, .ref q_this), (1, .int b1), (2, .int b2)]) dX5_linesOf_54 rfl 3 rfl (by decide) (by decide) (fun _ => rfl) hf (fun x3 hf => ?_)
          refine j_goto (tgt := 30) hC dX5_linesOf_57 (by decide) ?_
          refine j_sub (lv' := [(0, .ref q_this), (1, .int b1), (2, .int b2), (3, .int x3)]) [1, 2, 3, 0] rfl ?_
          exact ih b1 b2 x3 s_refusal hf
        · refine j_iinc (q := 54) (v := 1) hC (fun x4 => [(2, .int x4), (0, .ref q_this), (1, .int b1), (3, .int b3)]) dX5_linesOf_51 rfl 2 rfl (by decide) (by decide) (fun _ => rfl) hf (fun x4 hf => ?_)
          refine j_iinc (q := 57) (v := 1) hC (fun x5 => [(3, .int x5), (2, .int x4), (0, .ref q_this), (1, .int b1)]) dX5_linesOf_54 rfl 3 rfl (by decide) (by decide) (fun _ => rfl) hf (fun x5 hf => ?_)
          refine j_goto (tgt := 30) hC dX5_linesOf_57 (by decide) ?_
          refine j_sub (lv' := [(0, .ref q_this), (1, .int b1), (2, .int x4), (3, .int x5)]) [2, 3, 1, 0] rfl ?_
          exact ih b1 x4 x5 s_refusal hf
  unfold fX5_linesOf at hf
  refine j_sub (lv' := [(0, .ref q_this), (1, .int a1)]) [0, 1] rfl ?_
  refine j_aload_n (q := 1) hC dX5_linesOf_0 rfl rfl 0 rfl ?_
  refine j_get (q := 4) hC zcl_X5 0 4 zw_246 ⟨rfl, rfl, by decide⟩ rfl rfl dX5_linesOf_1 rfl ?_
  refine j_if_ne (tgt := 13) (q := 7) hC dX5_linesOf_4 (by decide) rfl hf (fun _ hf => ?_) (fun _ hf => ?_)
  · refine j_iload_n (q := 14) hC dX5_linesOf_13 rfl rfl 1 rfl ?_
    refine j_callS (q := 17) hC [.int a1] [] (fun x1 : Int32 => some (.int x1)) (fun x1 => []) (fun x1 => [(q_this, .inr (4, [v_tape, .int s_taped, v_plan, v_spare, .int s_hasCache, v_teller, .ref q_now, v_trial, v_past, v_images, .int s_imaged, .int s_refusal])), (q_now, .inr (2, [.int s_now_sets, .int s_now_ways, .int s_now_weighed, .int s_now_plain, v_now_memory, .ref q_now_words, v_now_used, v_now_last, v_now_shape, v_now_dirty, .int s_now_clock, .int s_now_hits, .int s_now_victims, .int s_now_backs])), (q_now_words, .inl (E.2.1 0, 256, .inl s_now_words))]) (fun x1 => [.int x1]) [] [0, 1, 2] hf (fun x1 hx => wX5_isForm E a1 x1  hx) zy_X5_isForm zw_512 (by unfold zRm; decide) rfl rfl (fun _ => rfl) (N := 3) (by decide) (fun _ => ⟨rfl, rfl, rfl⟩) rfl (Nat.le_of_ble_eq_true rfl) dX5_linesOf_14 rfl rfl (fun _ => rfl) (fun x1 hf => ?_)
    refine j_if_ne (tgt := 26) (q := 20) hC dX5_linesOf_17 (by decide) rfl hf (fun _ hf => ?_) (fun _ hf => ?_)
    · refine j_iconst (q := 27) (v := 0) hC dX5_linesOf_26 rfl (by decide) ?_
      refine j_istore_n (q := 28) (lv' := [(2, .int 0), (0, .ref q_this), (1, .int a1)]) hC dX5_linesOf_27 rfl rfl (by decide) rfl ?_
      refine j_iconst (q := 29) (v := 0) hC dX5_linesOf_28 rfl (by decide) ?_
      refine j_istore_n (q := 30) (lv' := [(3, .int 0), (2, .int 0), (0, .ref q_this), (1, .int a1)]) hC dX5_linesOf_29 rfl rfl (by decide) rfl ?_
      refine j_sub (lv' := [(0, .ref q_this), (1, .int a1), (2, .int 0), (3, .int 0)]) [2, 3, 1, 0] rfl ?_
      exact B30  zF a1 0 0 s_refusal hf
    · refine j_aload_n (q := 21) hC dX5_linesOf_20 rfl rfl 0 rfl ?_
      refine j_iconst (q := 22) (v := 2) hC dX5_linesOf_21 rfl (by decide) ?_
      refine j_callV (q := 25) hC [.int 2] [] (fun x2 : Int32 × Int32 => some (.int x2.1)) (fun x2 => [(q_this, .inr (4, [v_tape, .int s_taped, v_plan, v_spare, .int s_hasCache, v_teller, .ref q_now, v_trial, v_past, v_images, .int s_imaged, .int x2.2]))]) (fun x2 => [(q_this, .inr (4, [v_tape, .int s_taped, v_plan, v_spare, .int s_hasCache, v_teller, .ref q_now, v_trial, v_past, v_images, .int s_imaged, .int x2.2])), (q_now, .inr (2, [.int s_now_sets, .int s_now_ways, .int s_now_weighed, .int s_now_plain, v_now_memory, .ref q_now_words, v_now_used, v_now_last, v_now_shape, v_now_dirty, .int s_now_clock, .int s_now_hits, .int s_now_victims, .int s_now_backs])), (q_now_words, .inl (E.2.1 0, 256, .inl s_now_words))]) (fun x2 => [.int x2.1]) [0] [1, 2] hf (fun x2 hx => wX5_refuse E q_this s_taped s_hasCache s_imaged s_refusal (v_tape) (v_plan) (v_spare) (v_teller) (.ref q_now) (v_trial) (v_past) (v_images) 2 x2  hx) zy_X5_refuse zw_291 (by unfold zRm; decide) rfl rfl (fun _ => rfl) (N := 3) (by decide) (fun _ => ⟨rfl, rfl, rfl⟩) rfl rfl rfl (Nat.le_of_ble_eq_true rfl) dX5_linesOf_22 rfl rfl (fun _ => rfl) (fun x2 hf => ?_)
      have hx := Option.some.inj hf
      exact j_iret hC hR dX5_linesOf_25 (by rw [← hx]) (by rw [← hx])
  · refine j_aload_n (q := 8) hC dX5_linesOf_7 rfl rfl 0 rfl ?_
    refine j_iconst (q := 9) (v := 1) hC dX5_linesOf_8 rfl (by decide) ?_
    refine j_callV (q := 12) hC [.int 1] [] (fun x3 : Int32 × Int32 => some (.int x3.1)) (fun x3 => [(q_this, .inr (4, [v_tape, .int s_taped, v_plan, v_spare, .int s_hasCache, v_teller, .ref q_now, v_trial, v_past, v_images, .int s_imaged, .int x3.2]))]) (fun x3 => [(q_this, .inr (4, [v_tape, .int s_taped, v_plan, v_spare, .int s_hasCache, v_teller, .ref q_now, v_trial, v_past, v_images, .int s_imaged, .int x3.2])), (q_now, .inr (2, [.int s_now_sets, .int s_now_ways, .int s_now_weighed, .int s_now_plain, v_now_memory, .ref q_now_words, v_now_used, v_now_last, v_now_shape, v_now_dirty, .int s_now_clock, .int s_now_hits, .int s_now_victims, .int s_now_backs])), (q_now_words, .inl (E.2.1 0, 256, .inl s_now_words))]) (fun x3 => [.int x3.1]) [0] [1, 2] hf (fun x3 hx => wX5_refuse E q_this s_taped s_hasCache s_imaged s_refusal (v_tape) (v_plan) (v_spare) (v_teller) (.ref q_now) (v_trial) (v_past) (v_images) 1 x3  hx) zy_X5_refuse zw_291 (by unfold zRm; decide) rfl rfl (fun _ => rfl) (N := 3) (by decide) (fun _ => ⟨rfl, rfl, rfl⟩) rfl rfl rfl (Nat.le_of_ble_eq_true rfl) dX5_linesOf_9 rfl rfl (fun _ => rfl) (fun x3 hf => ?_)
    have hx := Option.some.inj hf
    exact j_iret hC hR dX5_linesOf_12 (by rw [← hx]) (by rw [← hx])
noncomputable def fX5_isSet (s_hasCache : Int32) (s_plan_sets : Int32) (a1 : Int32) : Option (Int32) :=
  if s_hasCache = 0 then (some 0)
    else (if a1 < 0 then (some 0)
    else (if s_plan_sets ≤ a1 then (some 0)
    else (some 1)))
set_option maxHeartbeats 4000000 in
set_option maxRecDepth 100000 in
theorem wX5_isSet (E : zE) (q_this : Nat) (q_plan : Nat) (s_taped : Int32) (s_hasCache : Int32) (s_imaged : Int32) (s_refusal : Int32) (s_plan_sets : Int32) (s_plan_ways : Int32) (s_plan_weighed : Int32) (s_plan_linesTold : Int32) (s_plan_steps : Int32) (s_plan_unsure : Int32) (s_plan_seen : Int32) (s_plan_fitsKnown : Int32) (s_plan_fitBits : Int32) (v_tape : Value) (v_spare : Value) (v_teller : Value) (v_now : Value) (v_trial : Value) (v_past : Value) (v_images : Value) (v_plan_toldAlready : Value) (v_plan_memory : Value) (v_plan_stepSpot : Value) (v_plan_stepWord : Value) (v_plan_unsureSpot : Value) (v_plan_unsureWord : Value) (v_plan_seenStep : Value) (v_plan_seenHit : Value) (a1 : Int32) (x : Int32) (hf : fX5_isSet s_hasCache s_plan_sets a1 = some x) (l : Launch) (sz : Nat) : zM l yX5_isSet cX5_isSet 2 (some .boolean) { frames := 0, cells := 0, slots := 0, locals := 0 } E [.ref q_this, .int a1] [(q_this, .inr (4, [v_tape, .int s_taped, .ref q_plan, v_spare, .int s_hasCache, v_teller, v_now, v_trial, v_past, v_images, .int s_imaged, .int s_refusal])), (q_plan, .inr (1, [.int s_plan_sets, .int s_plan_ways, .int s_plan_weighed, .int s_plan_linesTold, v_plan_toldAlready, v_plan_memory, .int s_plan_steps, v_plan_stepSpot, v_plan_stepWord, .int s_plan_unsure, v_plan_unsureSpot, v_plan_unsureWord, .int s_plan_seen, v_plan_seenStep, v_plan_seenHit, .int s_plan_fitsKnown, .int s_plan_fitBits]))] sz (some (.int x)) [(q_this, .inr (4, [v_tape, .int s_taped, .ref q_plan, v_spare, .int s_hasCache, v_teller, v_now, v_trial, v_past, v_images, .int s_imaged, .int s_refusal])), (q_plan, .inr (1, [.int s_plan_sets, .int s_plan_ways, .int s_plan_weighed, .int s_plan_linesTold, v_plan_toldAlready, v_plan_memory, .int s_plan_steps, v_plan_stepSpot, v_plan_stepWord, .int s_plan_unsure, v_plan_unsureSpot, v_plan_unsureWord, .int s_plan_seen, v_plan_seenStep, v_plan_seenHit, .int s_plan_fitsKnown, .int s_plan_fitBits]))] := by
  refine zEnter (by decide) (Nat.le_of_ble_eq_true rfl) ?_
  intro C hC hR
  change zC C E cX5_isSet "PackedCache" 2 _ at hC
  unfold fX5_isSet at hf
  refine j_sub (lv' := [(0, .ref q_this), (1, .int a1)]) [0, 1] rfl ?_
  refine j_aload_n (q := 1) hC dX5_isSet_0 rfl rfl 0 rfl ?_
  refine j_get (q := 4) hC zcl_X5 0 4 zw_246 ⟨rfl, rfl, by decide⟩ rfl rfl dX5_isSet_1 rfl ?_
  refine j_if_eq (tgt := 26) (q := 7) hC dX5_isSet_4 (by decide) rfl hf (fun _ hf => ?_) (fun _ hf => ?_)
  · refine j_iconst (q := 27) (v := 0) hC dX5_isSet_26 rfl (by decide) ?_
    have hx := Option.some.inj hf
    exact j_zret hC hR rfl dX5_isSet_27 (by rw [← hx]) rfl
  · refine j_iload_n (q := 8) hC dX5_isSet_7 rfl rfl 1 rfl ?_
    refine j_if_lt (tgt := 26) (q := 11) hC dX5_isSet_8 (by decide) rfl hf (fun _ hf => ?_) (fun _ hf => ?_)
    · refine j_iconst (q := 27) (v := 0) hC dX5_isSet_26 rfl (by decide) ?_
      have hx := Option.some.inj hf
      exact j_zret hC hR rfl dX5_isSet_27 (by rw [← hx]) rfl
    · refine j_iload_n (q := 12) hC dX5_isSet_11 rfl rfl 1 rfl ?_
      refine j_aload_n (q := 13) hC dX5_isSet_12 rfl rfl 0 rfl ?_
      refine j_get (q := 16) hC zcl_X5 0 2 zw_244 ⟨rfl, rfl, by decide⟩ rfl rfl dX5_isSet_13 rfl ?_
      refine j_getN (q := 19) hC zcl_X1 1 0 zn_38 ⟨rfl, rfl, by decide⟩ rfl rfl dX5_isSet_16 rfl ?_
      refine j_icmp_ge (tgt := 26) (q := 22) hC dX5_isSet_19 (by decide) rfl hf (fun _ hf => ?_) (fun _ hf => ?_)
      · refine j_iconst (q := 27) (v := 0) hC dX5_isSet_26 rfl (by decide) ?_
        have hx := Option.some.inj hf
        exact j_zret hC hR rfl dX5_isSet_27 (by rw [← hx]) rfl
      · refine j_iconst (q := 23) (v := 1) hC dX5_isSet_22 rfl (by decide) ?_
        refine j_goto (tgt := 27) hC dX5_isSet_23 (by decide) ?_
        have hx := Option.some.inj hf
        exact j_zret hC hR rfl dX5_isSet_27 (by rw [← hx]) rfl
noncomputable def fX5_set (s_hasCache : Int32) (s_refusal : Int32) (s_now_sets : Int32) (s_now_ways : Int32) (s_plan_sets : Int32) (s_now_dirty : (Nat → Int32)) (s_now_shape : (Nat → Int32)) (s_now_used : (Nat → Int32)) (a1 : Int32) (a2 : Int32) : Option (Int32 × Int32) :=
  (fX5_isSet s_hasCache s_plan_sets a1).bind fun x1 =>
    if x1 = 0 then ((fX5_refuse s_refusal 1).bind fun x13 =>
    some (x13.1, x13.2))
    else (if a2 = 0 then ((fX3_tagsIn s_now_sets s_now_used a1 (-1)).bind fun x2 =>
    (fX5_pass s_refusal x2).bind fun x3 =>
    some (x3.1, x3.2))
    else (if a2 = 1 then ((fX3_segmentsIn s_now_sets s_now_shape s_now_used a1 (-1)).bind fun x4 =>
    (fX5_pass s_refusal x4).bind fun x5 =>
    some (x5.1, x5.2))
    else (if a2 = 2 then ((fX3_dirtyIn s_now_sets s_now_dirty a1).bind fun x6 =>
    (fX5_pass s_refusal x6).bind fun x7 =>
    some (x7.1, x7.2))
    else (if a2 = 3 then ((fX3_segmentRoom s_now_ways).bind fun x8 =>
    (fX3_segmentsIn s_now_sets s_now_shape s_now_used a1 (-1)).bind fun x9 =>
    zlet (x8 - x9 : Int32) fun x10 =>
    (fX5_pass s_refusal x10).bind fun x11 =>
    some (x11.1, x11.2))
    else ((fX5_refuse s_refusal 1).bind fun x12 =>
    some (x12.1, x12.2))))))
set_option maxHeartbeats 4000000 in
set_option maxRecDepth 100000 in
theorem wX5_set (E : zE) (q_this : Nat) (q_now : Nat) (q_plan : Nat) (q_now_dirty : Nat) (q_now_shape : Nat) (q_now_used : Nat) (s_taped : Int32) (s_hasCache : Int32) (s_imaged : Int32) (s_refusal : Int32) (s_now_sets : Int32) (s_now_ways : Int32) (s_now_weighed : Int32) (s_now_plain : Int32) (s_now_clock : Int32) (s_now_hits : Int32) (s_now_victims : Int32) (s_now_backs : Int32) (s_plan_sets : Int32) (s_plan_ways : Int32) (s_plan_weighed : Int32) (s_plan_linesTold : Int32) (s_plan_steps : Int32) (s_plan_unsure : Int32) (s_plan_seen : Int32) (s_plan_fitsKnown : Int32) (s_plan_fitBits : Int32) (s_now_dirty : (Nat → Int32)) (s_now_shape : (Nat → Int32)) (s_now_used : (Nat → Int32)) (v_tape : Value) (v_spare : Value) (v_teller : Value) (v_trial : Value) (v_past : Value) (v_images : Value) (v_now_memory : Value) (v_now_words : Value) (v_now_last : Value) (v_plan_toldAlready : Value) (v_plan_memory : Value) (v_plan_stepSpot : Value) (v_plan_stepWord : Value) (v_plan_unsureSpot : Value) (v_plan_unsureWord : Value) (v_plan_seenStep : Value) (v_plan_seenHit : Value) (a1 : Int32) (a2 : Int32) (x : Int32 × Int32) (hf : fX5_set s_hasCache s_refusal s_now_sets s_now_ways s_plan_sets s_now_dirty s_now_shape s_now_used a1 a2 = some x) (l : Launch) (sz : Nat) : zM l yX5_set cX5_set 3 (some .int) { frames := 2, cells := 0, slots := 0, locals := 46 } E [.ref q_this, .int a1, .int a2] [(q_this, .inr (4, [v_tape, .int s_taped, .ref q_plan, v_spare, .int s_hasCache, v_teller, .ref q_now, v_trial, v_past, v_images, .int s_imaged, .int s_refusal])), (q_now, .inr (2, [.int s_now_sets, .int s_now_ways, .int s_now_weighed, .int s_now_plain, v_now_memory, v_now_words, .ref q_now_used, v_now_last, .ref q_now_shape, .ref q_now_dirty, .int s_now_clock, .int s_now_hits, .int s_now_victims, .int s_now_backs])), (q_plan, .inr (1, [.int s_plan_sets, .int s_plan_ways, .int s_plan_weighed, .int s_plan_linesTold, v_plan_toldAlready, v_plan_memory, .int s_plan_steps, v_plan_stepSpot, v_plan_stepWord, .int s_plan_unsure, v_plan_unsureSpot, v_plan_unsureWord, .int s_plan_seen, v_plan_seenStep, v_plan_seenHit, .int s_plan_fitsKnown, .int s_plan_fitBits])), (q_now_dirty, .inl (E.2.1 0, 32, .inl s_now_dirty)), (q_now_shape, .inl (E.2.1 0, 32, .inl s_now_shape)), (q_now_used, .inl (E.2.1 0, 32, .inl s_now_used))] sz (some (.int x.1)) [(q_this, .inr (4, [v_tape, .int s_taped, .ref q_plan, v_spare, .int s_hasCache, v_teller, .ref q_now, v_trial, v_past, v_images, .int s_imaged, .int x.2])), (q_now, .inr (2, [.int s_now_sets, .int s_now_ways, .int s_now_weighed, .int s_now_plain, v_now_memory, v_now_words, .ref q_now_used, v_now_last, .ref q_now_shape, .ref q_now_dirty, .int s_now_clock, .int s_now_hits, .int s_now_victims, .int s_now_backs])), (q_plan, .inr (1, [.int s_plan_sets, .int s_plan_ways, .int s_plan_weighed, .int s_plan_linesTold, v_plan_toldAlready, v_plan_memory, .int s_plan_steps, v_plan_stepSpot, v_plan_stepWord, .int s_plan_unsure, v_plan_unsureSpot, v_plan_unsureWord, .int s_plan_seen, v_plan_seenStep, v_plan_seenHit, .int s_plan_fitsKnown, .int s_plan_fitBits])), (q_now_dirty, .inl (E.2.1 0, 32, .inl s_now_dirty)), (q_now_shape, .inl (E.2.1 0, 32, .inl s_now_shape)), (q_now_used, .inl (E.2.1 0, 32, .inl s_now_used))] := by
  refine zEnter (by decide) (Nat.le_of_ble_eq_true rfl) ?_
  intro C hC hR
  change zC C E cX5_set "PackedCache" 3 _ at hC
  unfold fX5_set at hf
  refine j_sub (lv' := [(0, .ref q_this), (1, .int a1), (2, .int a2)]) [0, 1, 2] rfl ?_
  refine j_aload_n (q := 1) hC dX5_set_0 rfl rfl 0 rfl ?_
  refine j_iload_n (q := 2) hC dX5_set_1 rfl rfl 1 rfl ?_
  refine j_callV (q := 5) hC [.int a1] [] (fun x1 : Int32 => some (.int x1)) (fun x1 => [(q_this, .inr (4, [v_tape, .int s_taped, .ref q_plan, v_spare, .int s_hasCache, v_teller, .ref q_now, v_trial, v_past, v_images, .int s_imaged, .int s_refusal])), (q_plan, .inr (1, [.int s_plan_sets, .int s_plan_ways, .int s_plan_weighed, .int s_plan_linesTold, v_plan_toldAlready, v_plan_memory, .int s_plan_steps, v_plan_stepSpot, v_plan_stepWord, .int s_plan_unsure, v_plan_unsureSpot, v_plan_unsureWord, .int s_plan_seen, v_plan_seenStep, v_plan_seenHit, .int s_plan_fitsKnown, .int s_plan_fitBits]))]) (fun x1 => [(q_this, .inr (4, [v_tape, .int s_taped, .ref q_plan, v_spare, .int s_hasCache, v_teller, .ref q_now, v_trial, v_past, v_images, .int s_imaged, .int s_refusal])), (q_now, .inr (2, [.int s_now_sets, .int s_now_ways, .int s_now_weighed, .int s_now_plain, v_now_memory, v_now_words, .ref q_now_used, v_now_last, .ref q_now_shape, .ref q_now_dirty, .int s_now_clock, .int s_now_hits, .int s_now_victims, .int s_now_backs])), (q_plan, .inr (1, [.int s_plan_sets, .int s_plan_ways, .int s_plan_weighed, .int s_plan_linesTold, v_plan_toldAlready, v_plan_memory, .int s_plan_steps, v_plan_stepSpot, v_plan_stepWord, .int s_plan_unsure, v_plan_unsureSpot, v_plan_unsureWord, .int s_plan_seen, v_plan_seenStep, v_plan_seenHit, .int s_plan_fitsKnown, .int s_plan_fitBits])), (q_now_dirty, .inl (E.2.1 0, 32, .inl s_now_dirty)), (q_now_shape, .inl (E.2.1 0, 32, .inl s_now_shape)), (q_now_used, .inl (E.2.1 0, 32, .inl s_now_used))]) (fun x1 => [.int x1]) [0, 2] [1, 3, 4, 5] hf (fun x1 hx => wX5_isSet E q_this q_plan s_taped s_hasCache s_imaged s_refusal s_plan_sets s_plan_ways s_plan_weighed s_plan_linesTold s_plan_steps s_plan_unsure s_plan_seen s_plan_fitsKnown s_plan_fitBits (v_tape) (v_spare) (v_teller) (.ref q_now) (v_trial) (v_past) (v_images) (v_plan_toldAlready) (v_plan_memory) (v_plan_stepSpot) (v_plan_stepWord) (v_plan_unsureSpot) (v_plan_unsureWord) (v_plan_seenStep) (v_plan_seenHit) a1 x1  hx) zy_X5_isSet zw_557 (by unfold zRm; decide) rfl rfl (fun _ => rfl) (N := 6) (by decide) (fun _ => ⟨rfl, rfl, rfl⟩) rfl rfl rfl (Nat.le_of_ble_eq_true rfl) dX5_set_2 rfl rfl (fun _ => rfl) (fun x1 hf => ?_)
  refine j_if_ne (tgt := 14) (q := 8) hC dX5_set_5 (by decide) rfl hf (fun _ hf => ?_) (fun _ hf => ?_)
  · refine j_iload_n (q := 15) hC dX5_set_14 rfl rfl 2 rfl ?_
    by_cases c15_0 : a2 = 0
    · have hf := (zite_s hf).1 c15_0
      refine j_table (tgt := 44) hC dX5_set_15 (by rw [c15_0]; decide) (by rw [c15_0]; decide) (by rw [c15_0]; rfl) (by decide) ?_
      refine j_aload_n (q := 45) hC dX5_set_44 rfl rfl 0 rfl ?_
      refine j_aload_n (q := 46) hC dX5_set_45 rfl rfl 0 rfl ?_
      refine j_get (q := 49) hC zcl_X5 0 6 zw_248 ⟨rfl, rfl, by decide⟩ rfl rfl dX5_set_46 rfl ?_
      refine j_iload_n (q := 50) hC dX5_set_49 rfl rfl 1 rfl ?_
      refine j_iconst (q := 51) (v := (-1)) hC dX5_set_50 rfl (by decide) ?_
      refine j_callV (q := 54) hC [.int a1, .int (-1)] [.ref q_this] (fun x2 : Int32 => some (.int x2)) (fun x2 => [(q_now, .inr (2, [.int s_now_sets, .int s_now_ways, .int s_now_weighed, .int s_now_plain, v_now_memory, v_now_words, .ref q_now_used, v_now_last, .ref q_now_shape, .ref q_now_dirty, .int s_now_clock, .int s_now_hits, .int s_now_victims, .int s_now_backs])), (q_now_used, .inl (E.2.1 0, 32, .inl s_now_used))]) (fun x2 => [(q_this, .inr (4, [v_tape, .int s_taped, .ref q_plan, v_spare, .int s_hasCache, v_teller, .ref q_now, v_trial, v_past, v_images, .int s_imaged, .int s_refusal])), (q_now, .inr (2, [.int s_now_sets, .int s_now_ways, .int s_now_weighed, .int s_now_plain, v_now_memory, v_now_words, .ref q_now_used, v_now_last, .ref q_now_shape, .ref q_now_dirty, .int s_now_clock, .int s_now_hits, .int s_now_victims, .int s_now_backs])), (q_plan, .inr (1, [.int s_plan_sets, .int s_plan_ways, .int s_plan_weighed, .int s_plan_linesTold, v_plan_toldAlready, v_plan_memory, .int s_plan_steps, v_plan_stepSpot, v_plan_stepWord, .int s_plan_unsure, v_plan_unsureSpot, v_plan_unsureWord, .int s_plan_seen, v_plan_seenStep, v_plan_seenHit, .int s_plan_fitsKnown, .int s_plan_fitBits])), (q_now_dirty, .inl (E.2.1 0, 32, .inl s_now_dirty)), (q_now_shape, .inl (E.2.1 0, 32, .inl s_now_shape)), (q_now_used, .inl (E.2.1 0, 32, .inl s_now_used))]) (fun x2 => [.int x2, .ref q_this]) [1, 5] [0, 2, 3, 4] hf (fun x2 hx => wX3_tagsIn E q_now q_now_used s_now_sets s_now_ways s_now_weighed s_now_plain s_now_clock s_now_hits s_now_victims s_now_backs s_now_used (v_now_memory) (v_now_words) (v_now_last) (.ref q_now_shape) (.ref q_now_dirty) a1 (-1) x2  hx) zy_X3_tagsIn zw_561 (by unfold zRm; decide) rfl rfl (fun _ => rfl) (N := 6) (by decide) (fun _ => ⟨rfl, rfl, rfl⟩) rfl rfl rfl (Nat.le_of_ble_eq_true rfl) dX5_set_51 rfl rfl (fun _ => rfl) (fun x2 hf => ?_)
      refine j_callV (q := 57) hC [.int x2] [] (fun x3 : Int32 × Int32 => some (.int x3.1)) (fun x3 => [(q_this, .inr (4, [v_tape, .int s_taped, .ref q_plan, v_spare, .int s_hasCache, v_teller, .ref q_now, v_trial, v_past, v_images, .int s_imaged, .int x3.2]))]) (fun x3 => [(q_this, .inr (4, [v_tape, .int s_taped, .ref q_plan, v_spare, .int s_hasCache, v_teller, .ref q_now, v_trial, v_past, v_images, .int s_imaged, .int x3.2])), (q_now, .inr (2, [.int s_now_sets, .int s_now_ways, .int s_now_weighed, .int s_now_plain, v_now_memory, v_now_words, .ref q_now_used, v_now_last, .ref q_now_shape, .ref q_now_dirty, .int s_now_clock, .int s_now_hits, .int s_now_victims, .int s_now_backs])), (q_plan, .inr (1, [.int s_plan_sets, .int s_plan_ways, .int s_plan_weighed, .int s_plan_linesTold, v_plan_toldAlready, v_plan_memory, .int s_plan_steps, v_plan_stepSpot, v_plan_stepWord, .int s_plan_unsure, v_plan_unsureSpot, v_plan_unsureWord, .int s_plan_seen, v_plan_seenStep, v_plan_seenHit, .int s_plan_fitsKnown, .int s_plan_fitBits])), (q_now_dirty, .inl (E.2.1 0, 32, .inl s_now_dirty)), (q_now_shape, .inl (E.2.1 0, 32, .inl s_now_shape)), (q_now_used, .inl (E.2.1 0, 32, .inl s_now_used))]) (fun x3 => [.int x3.1]) [0] [1, 2, 3, 4, 5] hf (fun x3 hx => wX5_pass E q_this s_taped s_hasCache s_imaged s_refusal (v_tape) (.ref q_plan) (v_spare) (v_teller) (.ref q_now) (v_trial) (v_past) (v_images) x2 x3  hx) zy_X5_pass zw_454 (by unfold zRm; decide) rfl rfl (fun _ => rfl) (N := 6) (by decide) (fun _ => ⟨rfl, rfl, rfl⟩) rfl rfl rfl (Nat.le_of_ble_eq_true rfl) dX5_set_54 rfl rfl (fun _ => rfl) (fun x3 hf => ?_)
      have hx := Option.some.inj hf
      exact j_iret hC hR dX5_set_57 (by rw [← hx]) (by rw [← hx])
    · have hf := (zite_s hf).2 c15_0
      by_cases c15_1 : a2 = 1
      · have hf := (zite_s hf).1 c15_1
        refine j_table (tgt := 58) hC dX5_set_15 (by rw [c15_1]; decide) (by rw [c15_1]; decide) (by rw [c15_1]; rfl) (by decide) ?_
        refine j_aload_n (q := 59) hC dX5_set_58 rfl rfl 0 rfl ?_
        refine j_aload_n (q := 60) hC dX5_set_59 rfl rfl 0 rfl ?_
        refine j_get (q := 63) hC zcl_X5 0 6 zw_248 ⟨rfl, rfl, by decide⟩ rfl rfl dX5_set_60 rfl ?_
        refine j_iload_n (q := 64) hC dX5_set_63 rfl rfl 1 rfl ?_
        refine j_iconst (q := 65) (v := (-1)) hC dX5_set_64 rfl (by decide) ?_
        refine j_callV (q := 68) hC [.int a1, .int (-1)] [.ref q_this] (fun x4 : Int32 => some (.int x4)) (fun x4 => [(q_now, .inr (2, [.int s_now_sets, .int s_now_ways, .int s_now_weighed, .int s_now_plain, v_now_memory, v_now_words, .ref q_now_used, v_now_last, .ref q_now_shape, .ref q_now_dirty, .int s_now_clock, .int s_now_hits, .int s_now_victims, .int s_now_backs])), (q_now_shape, .inl (E.2.1 0, 32, .inl s_now_shape)), (q_now_used, .inl (E.2.1 0, 32, .inl s_now_used))]) (fun x4 => [(q_this, .inr (4, [v_tape, .int s_taped, .ref q_plan, v_spare, .int s_hasCache, v_teller, .ref q_now, v_trial, v_past, v_images, .int s_imaged, .int s_refusal])), (q_now, .inr (2, [.int s_now_sets, .int s_now_ways, .int s_now_weighed, .int s_now_plain, v_now_memory, v_now_words, .ref q_now_used, v_now_last, .ref q_now_shape, .ref q_now_dirty, .int s_now_clock, .int s_now_hits, .int s_now_victims, .int s_now_backs])), (q_plan, .inr (1, [.int s_plan_sets, .int s_plan_ways, .int s_plan_weighed, .int s_plan_linesTold, v_plan_toldAlready, v_plan_memory, .int s_plan_steps, v_plan_stepSpot, v_plan_stepWord, .int s_plan_unsure, v_plan_unsureSpot, v_plan_unsureWord, .int s_plan_seen, v_plan_seenStep, v_plan_seenHit, .int s_plan_fitsKnown, .int s_plan_fitBits])), (q_now_dirty, .inl (E.2.1 0, 32, .inl s_now_dirty)), (q_now_shape, .inl (E.2.1 0, 32, .inl s_now_shape)), (q_now_used, .inl (E.2.1 0, 32, .inl s_now_used))]) (fun x4 => [.int x4, .ref q_this]) [1, 4, 5] [0, 2, 3] hf (fun x4 hx => wX3_segmentsIn E q_now q_now_shape q_now_used s_now_sets s_now_ways s_now_weighed s_now_plain s_now_clock s_now_hits s_now_victims s_now_backs s_now_shape s_now_used (v_now_memory) (v_now_words) (v_now_last) (.ref q_now_dirty) a1 (-1) x4  hx) zy_X3_segmentsIn zw_572 (by unfold zRm; decide) rfl rfl (fun _ => rfl) (N := 6) (by decide) (fun _ => ⟨rfl, rfl, rfl⟩) rfl rfl rfl (Nat.le_of_ble_eq_true rfl) dX5_set_65 rfl rfl (fun _ => rfl) (fun x4 hf => ?_)
        refine j_callV (q := 71) hC [.int x4] [] (fun x5 : Int32 × Int32 => some (.int x5.1)) (fun x5 => [(q_this, .inr (4, [v_tape, .int s_taped, .ref q_plan, v_spare, .int s_hasCache, v_teller, .ref q_now, v_trial, v_past, v_images, .int s_imaged, .int x5.2]))]) (fun x5 => [(q_this, .inr (4, [v_tape, .int s_taped, .ref q_plan, v_spare, .int s_hasCache, v_teller, .ref q_now, v_trial, v_past, v_images, .int s_imaged, .int x5.2])), (q_now, .inr (2, [.int s_now_sets, .int s_now_ways, .int s_now_weighed, .int s_now_plain, v_now_memory, v_now_words, .ref q_now_used, v_now_last, .ref q_now_shape, .ref q_now_dirty, .int s_now_clock, .int s_now_hits, .int s_now_victims, .int s_now_backs])), (q_plan, .inr (1, [.int s_plan_sets, .int s_plan_ways, .int s_plan_weighed, .int s_plan_linesTold, v_plan_toldAlready, v_plan_memory, .int s_plan_steps, v_plan_stepSpot, v_plan_stepWord, .int s_plan_unsure, v_plan_unsureSpot, v_plan_unsureWord, .int s_plan_seen, v_plan_seenStep, v_plan_seenHit, .int s_plan_fitsKnown, .int s_plan_fitBits])), (q_now_dirty, .inl (E.2.1 0, 32, .inl s_now_dirty)), (q_now_shape, .inl (E.2.1 0, 32, .inl s_now_shape)), (q_now_used, .inl (E.2.1 0, 32, .inl s_now_used))]) (fun x5 => [.int x5.1]) [0] [1, 2, 3, 4, 5] hf (fun x5 hx => wX5_pass E q_this s_taped s_hasCache s_imaged s_refusal (v_tape) (.ref q_plan) (v_spare) (v_teller) (.ref q_now) (v_trial) (v_past) (v_images) x4 x5  hx) zy_X5_pass zw_454 (by unfold zRm; decide) rfl rfl (fun _ => rfl) (N := 6) (by decide) (fun _ => ⟨rfl, rfl, rfl⟩) rfl rfl rfl (Nat.le_of_ble_eq_true rfl) dX5_set_68 rfl rfl (fun _ => rfl) (fun x5 hf => ?_)
        have hx := Option.some.inj hf
        exact j_iret hC hR dX5_set_71 (by rw [← hx]) (by rw [← hx])
      · have hf := (zite_s hf).2 c15_1
        by_cases c15_2 : a2 = 2
        · have hf := (zite_s hf).1 c15_2
          refine j_table (tgt := 72) hC dX5_set_15 (by rw [c15_2]; decide) (by rw [c15_2]; decide) (by rw [c15_2]; rfl) (by decide) ?_
          refine j_aload_n (q := 73) hC dX5_set_72 rfl rfl 0 rfl ?_
          refine j_aload_n (q := 74) hC dX5_set_73 rfl rfl 0 rfl ?_
          refine j_get (q := 77) hC zcl_X5 0 6 zw_248 ⟨rfl, rfl, by decide⟩ rfl rfl dX5_set_74 rfl ?_
          refine j_iload_n (q := 78) hC dX5_set_77 rfl rfl 1 rfl ?_
          refine j_callV (q := 81) hC [.int a1] [.ref q_this] (fun x6 : Int32 => some (.int x6)) (fun x6 => [(q_now, .inr (2, [.int s_now_sets, .int s_now_ways, .int s_now_weighed, .int s_now_plain, v_now_memory, v_now_words, .ref q_now_used, v_now_last, .ref q_now_shape, .ref q_now_dirty, .int s_now_clock, .int s_now_hits, .int s_now_victims, .int s_now_backs])), (q_now_dirty, .inl (E.2.1 0, 32, .inl s_now_dirty))]) (fun x6 => [(q_this, .inr (4, [v_tape, .int s_taped, .ref q_plan, v_spare, .int s_hasCache, v_teller, .ref q_now, v_trial, v_past, v_images, .int s_imaged, .int s_refusal])), (q_now, .inr (2, [.int s_now_sets, .int s_now_ways, .int s_now_weighed, .int s_now_plain, v_now_memory, v_now_words, .ref q_now_used, v_now_last, .ref q_now_shape, .ref q_now_dirty, .int s_now_clock, .int s_now_hits, .int s_now_victims, .int s_now_backs])), (q_plan, .inr (1, [.int s_plan_sets, .int s_plan_ways, .int s_plan_weighed, .int s_plan_linesTold, v_plan_toldAlready, v_plan_memory, .int s_plan_steps, v_plan_stepSpot, v_plan_stepWord, .int s_plan_unsure, v_plan_unsureSpot, v_plan_unsureWord, .int s_plan_seen, v_plan_seenStep, v_plan_seenHit, .int s_plan_fitsKnown, .int s_plan_fitBits])), (q_now_dirty, .inl (E.2.1 0, 32, .inl s_now_dirty)), (q_now_shape, .inl (E.2.1 0, 32, .inl s_now_shape)), (q_now_used, .inl (E.2.1 0, 32, .inl s_now_used))]) (fun x6 => [.int x6, .ref q_this]) [1, 3] [0, 2, 4, 5] hf (fun x6 hx => wX3_dirtyIn E q_now q_now_dirty s_now_sets s_now_ways s_now_weighed s_now_plain s_now_clock s_now_hits s_now_victims s_now_backs s_now_dirty (v_now_memory) (v_now_words) (.ref q_now_used) (v_now_last) (.ref q_now_shape) a1 x6  hx) zy_X3_dirtyIn zw_577 (by unfold zRm; decide) rfl rfl (fun _ => rfl) (N := 6) (by decide) (fun _ => ⟨rfl, rfl, rfl⟩) rfl rfl rfl (Nat.le_of_ble_eq_true rfl) dX5_set_78 rfl rfl (fun _ => rfl) (fun x6 hf => ?_)
          refine j_callV (q := 84) hC [.int x6] [] (fun x7 : Int32 × Int32 => some (.int x7.1)) (fun x7 => [(q_this, .inr (4, [v_tape, .int s_taped, .ref q_plan, v_spare, .int s_hasCache, v_teller, .ref q_now, v_trial, v_past, v_images, .int s_imaged, .int x7.2]))]) (fun x7 => [(q_this, .inr (4, [v_tape, .int s_taped, .ref q_plan, v_spare, .int s_hasCache, v_teller, .ref q_now, v_trial, v_past, v_images, .int s_imaged, .int x7.2])), (q_now, .inr (2, [.int s_now_sets, .int s_now_ways, .int s_now_weighed, .int s_now_plain, v_now_memory, v_now_words, .ref q_now_used, v_now_last, .ref q_now_shape, .ref q_now_dirty, .int s_now_clock, .int s_now_hits, .int s_now_victims, .int s_now_backs])), (q_plan, .inr (1, [.int s_plan_sets, .int s_plan_ways, .int s_plan_weighed, .int s_plan_linesTold, v_plan_toldAlready, v_plan_memory, .int s_plan_steps, v_plan_stepSpot, v_plan_stepWord, .int s_plan_unsure, v_plan_unsureSpot, v_plan_unsureWord, .int s_plan_seen, v_plan_seenStep, v_plan_seenHit, .int s_plan_fitsKnown, .int s_plan_fitBits])), (q_now_dirty, .inl (E.2.1 0, 32, .inl s_now_dirty)), (q_now_shape, .inl (E.2.1 0, 32, .inl s_now_shape)), (q_now_used, .inl (E.2.1 0, 32, .inl s_now_used))]) (fun x7 => [.int x7.1]) [0] [1, 2, 3, 4, 5] hf (fun x7 hx => wX5_pass E q_this s_taped s_hasCache s_imaged s_refusal (v_tape) (.ref q_plan) (v_spare) (v_teller) (.ref q_now) (v_trial) (v_past) (v_images) x6 x7  hx) zy_X5_pass zw_454 (by unfold zRm; decide) rfl rfl (fun _ => rfl) (N := 6) (by decide) (fun _ => ⟨rfl, rfl, rfl⟩) rfl rfl rfl (Nat.le_of_ble_eq_true rfl) dX5_set_81 rfl rfl (fun _ => rfl) (fun x7 hf => ?_)
          have hx := Option.some.inj hf
          exact j_iret hC hR dX5_set_84 (by rw [← hx]) (by rw [← hx])
        · have hf := (zite_s hf).2 c15_2
          by_cases c15_3 : a2 = 3
          · have hf := (zite_s hf).1 c15_3
            refine j_table (tgt := 85) hC dX5_set_15 (by rw [c15_3]; decide) (by rw [c15_3]; decide) (by rw [c15_3]; rfl) (by decide) ?_
            refine j_aload_n (q := 86) hC dX5_set_85 rfl rfl 0 rfl ?_
            refine j_aload_n (q := 87) hC dX5_set_86 rfl rfl 0 rfl ?_
            refine j_get (q := 90) hC zcl_X5 0 6 zw_248 ⟨rfl, rfl, by decide⟩ rfl rfl dX5_set_87 rfl ?_
            refine j_callV (q := 93) hC [] [.ref q_this] (fun x8 : Int32 => some (.int x8)) (fun x8 => [(q_now, .inr (2, [.int s_now_sets, .int s_now_ways, .int s_now_weighed, .int s_now_plain, v_now_memory, v_now_words, .ref q_now_used, v_now_last, .ref q_now_shape, .ref q_now_dirty, .int s_now_clock, .int s_now_hits, .int s_now_victims, .int s_now_backs]))]) (fun x8 => [(q_this, .inr (4, [v_tape, .int s_taped, .ref q_plan, v_spare, .int s_hasCache, v_teller, .ref q_now, v_trial, v_past, v_images, .int s_imaged, .int s_refusal])), (q_now, .inr (2, [.int s_now_sets, .int s_now_ways, .int s_now_weighed, .int s_now_plain, v_now_memory, v_now_words, .ref q_now_used, v_now_last, .ref q_now_shape, .ref q_now_dirty, .int s_now_clock, .int s_now_hits, .int s_now_victims, .int s_now_backs])), (q_plan, .inr (1, [.int s_plan_sets, .int s_plan_ways, .int s_plan_weighed, .int s_plan_linesTold, v_plan_toldAlready, v_plan_memory, .int s_plan_steps, v_plan_stepSpot, v_plan_stepWord, .int s_plan_unsure, v_plan_unsureSpot, v_plan_unsureWord, .int s_plan_seen, v_plan_seenStep, v_plan_seenHit, .int s_plan_fitsKnown, .int s_plan_fitBits])), (q_now_dirty, .inl (E.2.1 0, 32, .inl s_now_dirty)), (q_now_shape, .inl (E.2.1 0, 32, .inl s_now_shape)), (q_now_used, .inl (E.2.1 0, 32, .inl s_now_used))]) (fun x8 => [.int x8, .ref q_this]) [1] [0, 2, 3, 4, 5] hf (fun x8 hx => wX3_segmentRoom E q_now s_now_sets s_now_ways s_now_weighed s_now_plain s_now_clock s_now_hits s_now_victims s_now_backs (v_now_memory) (v_now_words) (.ref q_now_used) (v_now_last) (.ref q_now_shape) (.ref q_now_dirty) x8  hx) zy_X3_segmentRoom zw_581 (by unfold zRm; decide) rfl rfl (fun _ => rfl) (N := 6) (by decide) (fun _ => ⟨rfl, rfl, rfl⟩) rfl rfl rfl (Nat.le_of_ble_eq_true rfl) dX5_set_90 rfl rfl (fun _ => rfl) (fun x8 hf => ?_)
            refine j_aload_n (q := 94) hC dX5_set_93 rfl rfl 0 rfl ?_
            refine j_get (q := 97) hC zcl_X5 0 6 zw_248 ⟨rfl, rfl, by decide⟩ rfl rfl dX5_set_94 rfl ?_
            refine j_iload_n (q := 98) hC dX5_set_97 rfl rfl 1 rfl ?_
            refine j_iconst (q := 99) (v := (-1)) hC dX5_set_98 rfl (by decide) ?_
            refine j_callV (q := 102) hC [.int a1, .int (-1)] [.int x8, .ref q_this] (fun x9 : Int32 => some (.int x9)) (fun x9 => [(q_now, .inr (2, [.int s_now_sets, .int s_now_ways, .int s_now_weighed, .int s_now_plain, v_now_memory, v_now_words, .ref q_now_used, v_now_last, .ref q_now_shape, .ref q_now_dirty, .int s_now_clock, .int s_now_hits, .int s_now_victims, .int s_now_backs])), (q_now_shape, .inl (E.2.1 0, 32, .inl s_now_shape)), (q_now_used, .inl (E.2.1 0, 32, .inl s_now_used))]) (fun x9 => [(q_this, .inr (4, [v_tape, .int s_taped, .ref q_plan, v_spare, .int s_hasCache, v_teller, .ref q_now, v_trial, v_past, v_images, .int s_imaged, .int s_refusal])), (q_now, .inr (2, [.int s_now_sets, .int s_now_ways, .int s_now_weighed, .int s_now_plain, v_now_memory, v_now_words, .ref q_now_used, v_now_last, .ref q_now_shape, .ref q_now_dirty, .int s_now_clock, .int s_now_hits, .int s_now_victims, .int s_now_backs])), (q_plan, .inr (1, [.int s_plan_sets, .int s_plan_ways, .int s_plan_weighed, .int s_plan_linesTold, v_plan_toldAlready, v_plan_memory, .int s_plan_steps, v_plan_stepSpot, v_plan_stepWord, .int s_plan_unsure, v_plan_unsureSpot, v_plan_unsureWord, .int s_plan_seen, v_plan_seenStep, v_plan_seenHit, .int s_plan_fitsKnown, .int s_plan_fitBits])), (q_now_dirty, .inl (E.2.1 0, 32, .inl s_now_dirty)), (q_now_shape, .inl (E.2.1 0, 32, .inl s_now_shape)), (q_now_used, .inl (E.2.1 0, 32, .inl s_now_used))]) (fun x9 => [.int x9, .int x8, .ref q_this]) [1, 4, 5] [0, 2, 3] hf (fun x9 hx => wX3_segmentsIn E q_now q_now_shape q_now_used s_now_sets s_now_ways s_now_weighed s_now_plain s_now_clock s_now_hits s_now_victims s_now_backs s_now_shape s_now_used (v_now_memory) (v_now_words) (v_now_last) (.ref q_now_dirty) a1 (-1) x9  hx) zy_X3_segmentsIn zw_572 (by unfold zRm; decide) rfl rfl (fun _ => rfl) (N := 6) (by decide) (fun _ => ⟨rfl, rfl, rfl⟩) rfl rfl rfl (Nat.le_of_ble_eq_true rfl) dX5_set_99 rfl rfl (fun _ => rfl) (fun x9 hf => ?_)
            refine j_isub (q := 103) hC dX5_set_102 rfl hf (fun x10 hf => ?_)
            refine j_callV (q := 106) hC [.int x10] [] (fun x11 : Int32 × Int32 => some (.int x11.1)) (fun x11 => [(q_this, .inr (4, [v_tape, .int s_taped, .ref q_plan, v_spare, .int s_hasCache, v_teller, .ref q_now, v_trial, v_past, v_images, .int s_imaged, .int x11.2]))]) (fun x11 => [(q_this, .inr (4, [v_tape, .int s_taped, .ref q_plan, v_spare, .int s_hasCache, v_teller, .ref q_now, v_trial, v_past, v_images, .int s_imaged, .int x11.2])), (q_now, .inr (2, [.int s_now_sets, .int s_now_ways, .int s_now_weighed, .int s_now_plain, v_now_memory, v_now_words, .ref q_now_used, v_now_last, .ref q_now_shape, .ref q_now_dirty, .int s_now_clock, .int s_now_hits, .int s_now_victims, .int s_now_backs])), (q_plan, .inr (1, [.int s_plan_sets, .int s_plan_ways, .int s_plan_weighed, .int s_plan_linesTold, v_plan_toldAlready, v_plan_memory, .int s_plan_steps, v_plan_stepSpot, v_plan_stepWord, .int s_plan_unsure, v_plan_unsureSpot, v_plan_unsureWord, .int s_plan_seen, v_plan_seenStep, v_plan_seenHit, .int s_plan_fitsKnown, .int s_plan_fitBits])), (q_now_dirty, .inl (E.2.1 0, 32, .inl s_now_dirty)), (q_now_shape, .inl (E.2.1 0, 32, .inl s_now_shape)), (q_now_used, .inl (E.2.1 0, 32, .inl s_now_used))]) (fun x11 => [.int x11.1]) [0] [1, 2, 3, 4, 5] hf (fun x11 hx => wX5_pass E q_this s_taped s_hasCache s_imaged s_refusal (v_tape) (.ref q_plan) (v_spare) (v_teller) (.ref q_now) (v_trial) (v_past) (v_images) x10 x11  hx) zy_X5_pass zw_454 (by unfold zRm; decide) rfl rfl (fun _ => rfl) (N := 6) (by decide) (fun _ => ⟨rfl, rfl, rfl⟩) rfl rfl rfl (Nat.le_of_ble_eq_true rfl) dX5_set_103 rfl rfl (fun _ => rfl) (fun x11 hf => ?_)
            have hx := Option.some.inj hf
            exact j_iret hC hR dX5_set_106 (by rw [← hx]) (by rw [← hx])
          · have hf := (zite_s hf).2 c15_3
            have hc15_0 := lv_neT c15_0 (a := 0) (by decide)
            have hc15_1 := lv_neT c15_1 (a := 1) (by decide)
            have hc15_2 := lv_neT c15_2 (a := 2) (by decide)
            have hc15_3 := lv_neT c15_3 (a := 3) (by decide)
            refine j_tableOut (tgt := 107) hC dX5_set_15 (by omega) (by decide) ?_
            refine j_aload_n (q := 108) hC dX5_set_107 rfl rfl 0 rfl ?_
            refine j_iconst (q := 109) (v := 1) hC dX5_set_108 rfl (by decide) ?_
            refine j_callV (q := 112) hC [.int 1] [] (fun x12 : Int32 × Int32 => some (.int x12.1)) (fun x12 => [(q_this, .inr (4, [v_tape, .int s_taped, .ref q_plan, v_spare, .int s_hasCache, v_teller, .ref q_now, v_trial, v_past, v_images, .int s_imaged, .int x12.2]))]) (fun x12 => [(q_this, .inr (4, [v_tape, .int s_taped, .ref q_plan, v_spare, .int s_hasCache, v_teller, .ref q_now, v_trial, v_past, v_images, .int s_imaged, .int x12.2])), (q_now, .inr (2, [.int s_now_sets, .int s_now_ways, .int s_now_weighed, .int s_now_plain, v_now_memory, v_now_words, .ref q_now_used, v_now_last, .ref q_now_shape, .ref q_now_dirty, .int s_now_clock, .int s_now_hits, .int s_now_victims, .int s_now_backs])), (q_plan, .inr (1, [.int s_plan_sets, .int s_plan_ways, .int s_plan_weighed, .int s_plan_linesTold, v_plan_toldAlready, v_plan_memory, .int s_plan_steps, v_plan_stepSpot, v_plan_stepWord, .int s_plan_unsure, v_plan_unsureSpot, v_plan_unsureWord, .int s_plan_seen, v_plan_seenStep, v_plan_seenHit, .int s_plan_fitsKnown, .int s_plan_fitBits])), (q_now_dirty, .inl (E.2.1 0, 32, .inl s_now_dirty)), (q_now_shape, .inl (E.2.1 0, 32, .inl s_now_shape)), (q_now_used, .inl (E.2.1 0, 32, .inl s_now_used))]) (fun x12 => [.int x12.1]) [0] [1, 2, 3, 4, 5] hf (fun x12 hx => wX5_refuse E q_this s_taped s_hasCache s_imaged s_refusal (v_tape) (.ref q_plan) (v_spare) (v_teller) (.ref q_now) (v_trial) (v_past) (v_images) 1 x12  hx) zy_X5_refuse zw_291 (by unfold zRm; decide) rfl rfl (fun _ => rfl) (N := 6) (by decide) (fun _ => ⟨rfl, rfl, rfl⟩) rfl rfl rfl (Nat.le_of_ble_eq_true rfl) dX5_set_109 rfl rfl (fun _ => rfl) (fun x12 hf => ?_)
            have hx := Option.some.inj hf
            exact j_iret hC hR dX5_set_112 (by rw [← hx]) (by rw [← hx])
  · refine j_aload_n (q := 9) hC dX5_set_8 rfl rfl 0 rfl ?_
    refine j_iconst (q := 10) (v := 1) hC dX5_set_9 rfl (by decide) ?_
    refine j_callV (q := 13) hC [.int 1] [] (fun x13 : Int32 × Int32 => some (.int x13.1)) (fun x13 => [(q_this, .inr (4, [v_tape, .int s_taped, .ref q_plan, v_spare, .int s_hasCache, v_teller, .ref q_now, v_trial, v_past, v_images, .int s_imaged, .int x13.2]))]) (fun x13 => [(q_this, .inr (4, [v_tape, .int s_taped, .ref q_plan, v_spare, .int s_hasCache, v_teller, .ref q_now, v_trial, v_past, v_images, .int s_imaged, .int x13.2])), (q_now, .inr (2, [.int s_now_sets, .int s_now_ways, .int s_now_weighed, .int s_now_plain, v_now_memory, v_now_words, .ref q_now_used, v_now_last, .ref q_now_shape, .ref q_now_dirty, .int s_now_clock, .int s_now_hits, .int s_now_victims, .int s_now_backs])), (q_plan, .inr (1, [.int s_plan_sets, .int s_plan_ways, .int s_plan_weighed, .int s_plan_linesTold, v_plan_toldAlready, v_plan_memory, .int s_plan_steps, v_plan_stepSpot, v_plan_stepWord, .int s_plan_unsure, v_plan_unsureSpot, v_plan_unsureWord, .int s_plan_seen, v_plan_seenStep, v_plan_seenHit, .int s_plan_fitsKnown, .int s_plan_fitBits])), (q_now_dirty, .inl (E.2.1 0, 32, .inl s_now_dirty)), (q_now_shape, .inl (E.2.1 0, 32, .inl s_now_shape)), (q_now_used, .inl (E.2.1 0, 32, .inl s_now_used))]) (fun x13 => [.int x13.1]) [0] [1, 2, 3, 4, 5] hf (fun x13 hx => wX5_refuse E q_this s_taped s_hasCache s_imaged s_refusal (v_tape) (.ref q_plan) (v_spare) (v_teller) (.ref q_now) (v_trial) (v_past) (v_images) 1 x13  hx) zy_X5_refuse zw_291 (by unfold zRm; decide) rfl rfl (fun _ => rfl) (N := 6) (by decide) (fun _ => ⟨rfl, rfl, rfl⟩) rfl rfl rfl (Nat.le_of_ble_eq_true rfl) dX5_set_10 rfl rfl (fun _ => rfl) (fun x13 hf => ?_)
    have hx := Option.some.inj hf
    exact j_iret hC hR dX5_set_13 (by rw [← hx]) (by rw [← hx])
