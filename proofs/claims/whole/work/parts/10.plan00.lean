noncomputable def fJ7_fill_53178_5 (n_a0 : Nat)  : Nat → Int32 → Int32 → Int32 → (Nat → Int32) → Option ((Nat → Int32))
  | 0, _, _, _, _ => none
  | m + 1, b1, b2, b3, s_a0 =>
    if b3 ≤ b2 then (some s_a0)
    else (zast s_a0 n_a0 b2 b1 fun x1 =>
    zlet (b2 + 1) fun x2 =>
    fJ7_fill_53178_5 n_a0  m b1 x2 b3 x1)
noncomputable def fJ7_fill_53178 (n_a0 : Nat) (s_a0 : (Nat → Int32)) (a1 : Int32) : Option ((Nat → Int32)) :=
  fJ7_fill_53178_5 n_a0  zF a1 0 (Int32.ofNat n_a0) s_a0
set_option maxHeartbeats 4000000 in
set_option maxRecDepth 100000 in
theorem wJ7_fill_53178 (E : zE) (n_a0 : Nat) (q_a0 : Nat) (s_a0 : (Nat → Int32)) (a1 : Int32) (x : (Nat → Int32)) (hf : fJ7_fill_53178 n_a0 s_a0 a1 = some x) (l : Launch) (sz : Nat) : zM l yJ7_fill_53178 cJ7_fill_53178 4 none { frames := 0, cells := 0, slots := 0, locals := 0 } E [.ref q_a0, .int a1] [(q_a0, .inl (E.2.1 0, n_a0, .inl s_a0))] sz none [(q_a0, .inl (E.2.1 0, n_a0, .inl x))] := by
  refine zEnter (by decide) (Nat.le_of_ble_eq_true rfl) ?_
  intro C hC hR
  change zC C E cJ7_fill_53178 "java/util/Arrays" 4 _ at hC
  have B5 : ∀ (N : Nat), ∀ (b1 : Int32) (b2 : Int32) (b3 : Int32) (s_a0 : (Nat → Int32)), fJ7_fill_53178_5 n_a0  N b1 b2 b3 s_a0 = some x → J C 0 0 [(q_a0, .inl (E.2.1 0, n_a0, .inl s_a0))] [(0, .ref q_a0), (1, .int b1), (2, .int b2), (3, .int b3)] 5 [] := by
    intro  N
    induction N with
    | zero =>
      intro b1 b2 b3 s_a0 hf
      rw [fJ7_fill_53178_5] at hf
      cases hf
    | succ m ih =>
      intro b1 b2 b3 s_a0 hf
      rw [fJ7_fill_53178_5] at hf
      refine j_iload_n (q := 6) hC dJ7_fill_53178_5 rfl rfl 2 rfl ?_
      refine j_iload_n (q := 7) hC dJ7_fill_53178_6 rfl rfl 3 rfl ?_
      refine j_icmp_ge (tgt := 20) (q := 10) hC dJ7_fill_53178_7 (by decide) rfl hf (fun _ hf => ?_) (fun _ hf => ?_)
      · have hx := Option.some.inj hf
        exact j_vret hC hR dJ7_fill_53178_20 rfl (by rw [← hx])
      · refine j_aload_n (q := 11) hC dJ7_fill_53178_10 rfl rfl 0 rfl ?_
        refine j_iload_n (q := 12) hC dJ7_fill_53178_11 rfl rfl 2 rfl ?_
        refine j_iload_n (q := 13) hC dJ7_fill_53178_12 rfl rfl 1 rfl ?_
        refine j_iast (q := 14) hC (fun x1 => [(q_a0, .inl (E.2.1 0, n_a0, .inl x1))]) 0 rfl (fun _ => rfl) dJ7_fill_53178_13 rfl hf (fun x1 hf => ?_)
        refine j_iinc (q := 17) (v := 1) hC (fun x2 => [(2, .int x2), (0, .ref q_a0), (1, .int b1), (3, .int b3)]) dJ7_fill_53178_14 rfl 2 rfl (by decide) (by decide) (fun _ => rfl) hf (fun x2 hf => ?_)
        refine j_goto (tgt := 5) hC dJ7_fill_53178_17 (by decide) ?_
        refine j_sub (lv' := [(0, .ref q_a0), (1, .int b1), (2, .int x2), (3, .int b3)]) [1, 2, 0, 3] rfl ?_
        exact ih b1 x2 b3 x1 hf
  unfold fJ7_fill_53178 at hf
  refine j_sub (lv' := [(0, .ref q_a0), (1, .int a1)]) [0, 1] rfl ?_
  refine j_iconst (q := 1) (v := 0) hC dJ7_fill_53178_0 rfl (by decide) ?_
  refine j_istore_n (q := 2) (lv' := [(2, .int 0), (0, .ref q_a0), (1, .int a1)]) hC dJ7_fill_53178_1 rfl rfl (by decide) rfl ?_
  refine j_aload_n (q := 3) hC dJ7_fill_53178_2 rfl rfl 1 rfl ?_
  refine j_alen (q := 4) (v := (Int32.ofNat n_a0)) hC 0 0 rfl rfl rfl dJ7_fill_53178_3 rfl ?_
  refine j_istore_n (q := 5) (lv' := [(3, .int (Int32.ofNat n_a0)), (2, .int 0), (0, .ref q_a0), (1, .int a1)]) hC dJ7_fill_53178_4 rfl rfl (by decide) rfl ?_
  refine j_sub (lv' := [(0, .ref q_a0), (1, .int a1), (2, .int 0), (3, .int (Int32.ofNat n_a0))]) [2, 3, 1, 0] rfl ?_
  exact B5  zF a1 0 (Int32.ofNat n_a0) s_a0 hf
noncomputable def fX1_clearAll (s_sets : Int32) (s_ways : Int32) (s_weighed : Int32) (s_linesTold : Int32) (s_steps : Int32) (s_unsure : Int32) (s_seen : Int32) (s_fitsKnown : Int32) (s_memory : (Nat → Int32)) (s_toldAlready : (Nat → Int32)) : Option (Int32 × Int32 × Int32 × Int32 × Int32 × Int32 × Int32 × Int32 × (Nat → Int32) × (Nat → Int32)) :=
  (fJ7_fill_53178 32 s_toldAlready 0).bind fun x1 =>
    (fJ7_fill_53178 256 s_memory 0).bind fun x2 =>
    some (0, 0, 0, 0, 0, 0, 0, 0, x2, x1)
set_option maxHeartbeats 4000000 in
set_option maxRecDepth 100000 in
theorem wX1_clearAll (E : zE) (q_this : Nat) (q_memory : Nat) (q_toldAlready : Nat) (s_sets : Int32) (s_ways : Int32) (s_weighed : Int32) (s_linesTold : Int32) (s_steps : Int32) (s_unsure : Int32) (s_seen : Int32) (s_fitsKnown : Int32) (s_fitBits : Int32) (s_memory : (Nat → Int32)) (s_toldAlready : (Nat → Int32)) (v_stepSpot : Value) (v_stepWord : Value) (v_unsureSpot : Value) (v_unsureWord : Value) (v_seenStep : Value) (v_seenHit : Value) (x : Int32 × Int32 × Int32 × Int32 × Int32 × Int32 × Int32 × Int32 × (Nat → Int32) × (Nat → Int32)) (hf : fX1_clearAll s_sets s_ways s_weighed s_linesTold s_steps s_unsure s_seen s_fitsKnown s_memory s_toldAlready = some x) (l : Launch) (sz : Nat) : zM l yX1_clearAll cX1_clearAll 1 none { frames := 1, cells := 0, slots := 0, locals := 23 } E [.ref q_this] [(q_this, .inr (1, [.int s_sets, .int s_ways, .int s_weighed, .int s_linesTold, .ref q_toldAlready, .ref q_memory, .int s_steps, v_stepSpot, v_stepWord, .int s_unsure, v_unsureSpot, v_unsureWord, .int s_seen, v_seenStep, v_seenHit, .int s_fitsKnown, .int s_fitBits])), (q_memory, .inl (E.2.1 0, 256, .inl s_memory)), (q_toldAlready, .inl (E.2.1 0, 32, .inl s_toldAlready))] sz none [(q_this, .inr (1, [.int x.1, .int x.2.1, .int x.2.2.1, .int x.2.2.2.1, .ref q_toldAlready, .ref q_memory, .int x.2.2.2.2.1, v_stepSpot, v_stepWord, .int x.2.2.2.2.2.1, v_unsureSpot, v_unsureWord, .int x.2.2.2.2.2.2.1, v_seenStep, v_seenHit, .int x.2.2.2.2.2.2.2.1, .int s_fitBits])), (q_memory, .inl (E.2.1 0, 256, .inl x.2.2.2.2.2.2.2.2.1)), (q_toldAlready, .inl (E.2.1 0, 32, .inl x.2.2.2.2.2.2.2.2.2))] := by
  refine zEnter (by decide) (Nat.le_of_ble_eq_true rfl) ?_
  intro C hC hR
  change zC C E cX1_clearAll "PackedCache$Plan" 1 _ at hC
  unfold fX1_clearAll at hf
  refine j_sub (lv' := [(0, .ref q_this)]) [0] rfl ?_
  refine j_aload_n (q := 1) hC dX1_clearAll_0 rfl rfl 0 rfl ?_
  refine j_iconst (q := 2) (v := 0) hC dX1_clearAll_1 rfl (by decide) ?_
  refine j_put (q := 5) (host := "") hC zcl_X1 0 0 (ws' := [(q_this, .inr (1, [.int 0, .int s_ways, .int s_weighed, .int s_linesTold, .ref q_toldAlready, .ref q_memory, .int s_steps, v_stepSpot, v_stepWord, .int s_unsure, v_unsureSpot, v_unsureWord, .int s_seen, v_seenStep, v_seenHit, .int s_fitsKnown, .int s_fitBits])), (q_memory, .inl (E.2.1 0, 256, .inl s_memory)), (q_toldAlready, .inl (E.2.1 0, 32, .inl s_toldAlready))]) zw_35 ⟨rfl, rfl, by decide, rfl⟩ rfl rfl rfl (Nat.le_of_ble_eq_true rfl) rfl dX1_clearAll_2 rfl ?_
  refine j_aload_n (q := 6) hC dX1_clearAll_5 rfl rfl 0 rfl ?_
  refine j_iconst (q := 7) (v := 0) hC dX1_clearAll_6 rfl (by decide) ?_
  refine j_put (q := 10) (host := "") hC zcl_X1 0 1 (ws' := [(q_this, .inr (1, [.int 0, .int 0, .int s_weighed, .int s_linesTold, .ref q_toldAlready, .ref q_memory, .int s_steps, v_stepSpot, v_stepWord, .int s_unsure, v_unsureSpot, v_unsureWord, .int s_seen, v_seenStep, v_seenHit, .int s_fitsKnown, .int s_fitBits])), (q_memory, .inl (E.2.1 0, 256, .inl s_memory)), (q_toldAlready, .inl (E.2.1 0, 32, .inl s_toldAlready))]) zw_39 ⟨rfl, rfl, by decide, rfl⟩ rfl rfl rfl (Nat.le_of_ble_eq_true rfl) rfl dX1_clearAll_7 rfl ?_
  refine j_aload_n (q := 11) hC dX1_clearAll_10 rfl rfl 0 rfl ?_
  refine j_iconst (q := 12) (v := 0) hC dX1_clearAll_11 rfl (by decide) ?_
  refine j_put (q := 15) (host := "") hC zcl_X1 0 2 (ws' := [(q_this, .inr (1, [.int 0, .int 0, .int 0, .int s_linesTold, .ref q_toldAlready, .ref q_memory, .int s_steps, v_stepSpot, v_stepWord, .int s_unsure, v_unsureSpot, v_unsureWord, .int s_seen, v_seenStep, v_seenHit, .int s_fitsKnown, .int s_fitBits])), (q_memory, .inl (E.2.1 0, 256, .inl s_memory)), (q_toldAlready, .inl (E.2.1 0, 32, .inl s_toldAlready))]) zw_42 ⟨rfl, rfl, by decide, rfl⟩ rfl rfl rfl (Nat.le_of_ble_eq_true rfl) rfl dX1_clearAll_12 rfl ?_
  refine j_aload_n (q := 16) hC dX1_clearAll_15 rfl rfl 0 rfl ?_
  refine j_iconst (q := 17) (v := 0) hC dX1_clearAll_16 rfl (by decide) ?_
  refine j_put (q := 20) (host := "") hC zcl_X1 0 3 (ws' := [(q_this, .inr (1, [.int 0, .int 0, .int 0, .int 0, .ref q_toldAlready, .ref q_memory, .int s_steps, v_stepSpot, v_stepWord, .int s_unsure, v_unsureSpot, v_unsureWord, .int s_seen, v_seenStep, v_seenHit, .int s_fitsKnown, .int s_fitBits])), (q_memory, .inl (E.2.1 0, 256, .inl s_memory)), (q_toldAlready, .inl (E.2.1 0, 32, .inl s_toldAlready))]) zw_46 ⟨rfl, rfl, by decide, rfl⟩ rfl rfl rfl (Nat.le_of_ble_eq_true rfl) rfl dX1_clearAll_17 rfl ?_
  refine j_aload_n (q := 21) hC dX1_clearAll_20 rfl rfl 0 rfl ?_
  refine j_get (q := 24) hC zcl_X1 0 4 zw_49 ⟨rfl, rfl, by decide⟩ rfl rfl dX1_clearAll_21 rfl ?_
  refine j_iconst (q := 25) (v := 0) hC dX1_clearAll_24 rfl (by decide) ?_
  refine j_callS (q := 28) hC [.ref q_toldAlready, .int 0] [] (fun x1 : (Nat → Int32) => none) (fun x1 => [(q_toldAlready, .inl (E.2.1 0, 32, .inl x1))]) (fun x1 => [(q_this, .inr (1, [.int 0, .int 0, .int 0, .int 0, .ref q_toldAlready, .ref q_memory, .int s_steps, v_stepSpot, v_stepWord, .int s_unsure, v_unsureSpot, v_unsureWord, .int s_seen, v_seenStep, v_seenHit, .int s_fitsKnown, .int s_fitBits])), (q_memory, .inl (E.2.1 0, 256, .inl s_memory)), (q_toldAlready, .inl (E.2.1 0, 32, .inl x1))]) (fun x1 => []) [2] [0, 1] hf (fun x1 hx => wJ7_fill_53178 E 32 q_toldAlready s_toldAlready 0 x1  hx) zy_J7_fill_53178 zw_306 (by unfold zRm; decide) rfl rfl (fun _ => rfl) (N := 3) (by decide) (fun _ => ⟨rfl, rfl, rfl⟩) rfl (Nat.le_of_ble_eq_true rfl) dX1_clearAll_25 rfl rfl (fun _ => rfl) (fun x1 hf => ?_)
  refine j_aload_n (q := 29) hC dX1_clearAll_28 rfl rfl 0 rfl ?_
  refine j_get (q := 32) hC zcl_X1 0 5 zw_51 ⟨rfl, rfl, by decide⟩ rfl rfl dX1_clearAll_29 rfl ?_
  refine j_iconst (q := 33) (v := 0) hC dX1_clearAll_32 rfl (by decide) ?_
  refine j_callS (q := 36) hC [.ref q_memory, .int 0] [] (fun x2 : (Nat → Int32) => none) (fun x2 => [(q_memory, .inl (E.2.1 0, 256, .inl x2))]) (fun x2 => [(q_this, .inr (1, [.int 0, .int 0, .int 0, .int 0, .ref q_toldAlready, .ref q_memory, .int s_steps, v_stepSpot, v_stepWord, .int s_unsure, v_unsureSpot, v_unsureWord, .int s_seen, v_seenStep, v_seenHit, .int s_fitsKnown, .int s_fitBits])), (q_memory, .inl (E.2.1 0, 256, .inl x2)), (q_toldAlready, .inl (E.2.1 0, 32, .inl x1))]) (fun x2 => []) [1] [0, 2] hf (fun x2 hx => wJ7_fill_53178 E 256 q_memory s_memory 0 x2  hx) zy_J7_fill_53178 zw_306 (by unfold zRm; decide) rfl rfl (fun _ => rfl) (N := 3) (by decide) (fun _ => ⟨rfl, rfl, rfl⟩) rfl (Nat.le_of_ble_eq_true rfl) dX1_clearAll_33 rfl rfl (fun _ => rfl) (fun x2 hf => ?_)
  refine j_aload_n (q := 37) hC dX1_clearAll_36 rfl rfl 0 rfl ?_
  refine j_iconst (q := 38) (v := 0) hC dX1_clearAll_37 rfl (by decide) ?_
  refine j_put (q := 41) (host := "") hC zcl_X1 0 6 (ws' := [(q_this, .inr (1, [.int 0, .int 0, .int 0, .int 0, .ref q_toldAlready, .ref q_memory, .int 0, v_stepSpot, v_stepWord, .int s_unsure, v_unsureSpot, v_unsureWord, .int s_seen, v_seenStep, v_seenHit, .int s_fitsKnown, .int s_fitBits])), (q_memory, .inl (E.2.1 0, 256, .inl x2)), (q_toldAlready, .inl (E.2.1 0, 32, .inl x1))]) zw_54 ⟨rfl, rfl, by decide, rfl⟩ rfl rfl rfl (Nat.le_of_ble_eq_true rfl) rfl dX1_clearAll_38 rfl ?_
  refine j_aload_n (q := 42) hC dX1_clearAll_41 rfl rfl 0 rfl ?_
  refine j_iconst (q := 43) (v := 0) hC dX1_clearAll_42 rfl (by decide) ?_
  refine j_put (q := 46) (host := "") hC zcl_X1 0 9 (ws' := [(q_this, .inr (1, [.int 0, .int 0, .int 0, .int 0, .ref q_toldAlready, .ref q_memory, .int 0, v_stepSpot, v_stepWord, .int 0, v_unsureSpot, v_unsureWord, .int s_seen, v_seenStep, v_seenHit, .int s_fitsKnown, .int s_fitBits])), (q_memory, .inl (E.2.1 0, 256, .inl x2)), (q_toldAlready, .inl (E.2.1 0, 32, .inl x1))]) zw_64 ⟨rfl, rfl, by decide, rfl⟩ rfl rfl rfl (Nat.le_of_ble_eq_true rfl) rfl dX1_clearAll_43 rfl ?_
  refine j_aload_n (q := 47) hC dX1_clearAll_46 rfl rfl 0 rfl ?_
  refine j_iconst (q := 48) (v := 0) hC dX1_clearAll_47 rfl (by decide) ?_
  refine j_put (q := 51) (host := "") hC zcl_X1 0 12 (ws' := [(q_this, .inr (1, [.int 0, .int 0, .int 0, .int 0, .ref q_toldAlready, .ref q_memory, .int 0, v_stepSpot, v_stepWord, .int 0, v_unsureSpot, v_unsureWord, .int 0, v_seenStep, v_seenHit, .int s_fitsKnown, .int s_fitBits])), (q_memory, .inl (E.2.1 0, 256, .inl x2)), (q_toldAlready, .inl (E.2.1 0, 32, .inl x1))]) zw_74 ⟨rfl, rfl, by decide, rfl⟩ rfl rfl rfl (Nat.le_of_ble_eq_true rfl) rfl dX1_clearAll_48 rfl ?_
  refine j_aload_n (q := 52) hC dX1_clearAll_51 rfl rfl 0 rfl ?_
  refine j_iconst (q := 53) (v := 0) hC dX1_clearAll_52 rfl (by decide) ?_
  refine j_put (q := 56) (host := "") hC zcl_X1 0 15 (ws' := [(q_this, .inr (1, [.int 0, .int 0, .int 0, .int 0, .ref q_toldAlready, .ref q_memory, .int 0, v_stepSpot, v_stepWord, .int 0, v_unsureSpot, v_unsureWord, .int 0, v_seenStep, v_seenHit, .int 0, .int s_fitBits])), (q_memory, .inl (E.2.1 0, 256, .inl x2)), (q_toldAlready, .inl (E.2.1 0, 32, .inl x1))]) zw_83 ⟨rfl, rfl, by decide, rfl⟩ rfl rfl rfl (Nat.le_of_ble_eq_true rfl) rfl dX1_clearAll_53 rfl ?_
  have hx := Option.some.inj hf
  exact j_vret hC hR dX1_clearAll_56 rfl (by rw [← hx])
noncomputable def fX1_isUnsure_2 (s_unsure : Int32) (s_unsureSpot : (Nat → Int32))  : Nat → Int32 → Int32 → Option (Int32)
  | 0, _, _ => none
  | m + 1, b1, b2 =>
    if s_unsure ≤ b2 then (some 0)
    else (zald s_unsureSpot 4 b2 fun x1 =>
    if x1 = b1 then (some 1)
    else (zlet (b2 + 1) fun x2 =>
    fX1_isUnsure_2 s_unsure s_unsureSpot  m b1 x2))
noncomputable def fX1_isUnsure (s_unsure : Int32) (s_unsureSpot : (Nat → Int32)) (a1 : Int32) : Option (Int32) :=
  fX1_isUnsure_2 s_unsure s_unsureSpot  zF a1 0
set_option maxHeartbeats 4000000 in
set_option maxRecDepth 100000 in
theorem wX1_isUnsure (E : zE) (q_this : Nat) (q_unsureSpot : Nat) (s_sets : Int32) (s_ways : Int32) (s_weighed : Int32) (s_linesTold : Int32) (s_steps : Int32) (s_unsure : Int32) (s_seen : Int32) (s_fitsKnown : Int32) (s_fitBits : Int32) (s_unsureSpot : (Nat → Int32)) (v_toldAlready : Value) (v_memory : Value) (v_stepSpot : Value) (v_stepWord : Value) (v_unsureWord : Value) (v_seenStep : Value) (v_seenHit : Value) (a1 : Int32) (x : Int32) (hf : fX1_isUnsure s_unsure s_unsureSpot a1 = some x) (l : Launch) (sz : Nat) : zM l yX1_isUnsure cX1_isUnsure 3 (some .boolean) { frames := 0, cells := 0, slots := 0, locals := 0 } E [.ref q_this, .int a1] [(q_this, .inr (1, [.int s_sets, .int s_ways, .int s_weighed, .int s_linesTold, v_toldAlready, v_memory, .int s_steps, v_stepSpot, v_stepWord, .int s_unsure, .ref q_unsureSpot, v_unsureWord, .int s_seen, v_seenStep, v_seenHit, .int s_fitsKnown, .int s_fitBits])), (q_unsureSpot, .inl (E.2.1 0, 4, .inl s_unsureSpot))] sz (some (.int x)) [(q_this, .inr (1, [.int s_sets, .int s_ways, .int s_weighed, .int s_linesTold, v_toldAlready, v_memory, .int s_steps, v_stepSpot, v_stepWord, .int s_unsure, .ref q_unsureSpot, v_unsureWord, .int s_seen, v_seenStep, v_seenHit, .int s_fitsKnown, .int s_fitBits])), (q_unsureSpot, .inl (E.2.1 0, 4, .inl s_unsureSpot))] := by
  refine zEnter (by decide) (Nat.le_of_ble_eq_true rfl) ?_
  intro C hC hR
  change zC C E cX1_isUnsure "PackedCache$Plan" 3 _ at hC
  have B2 : ∀ (N : Nat), ∀ (b1 : Int32) (b2 : Int32), fX1_isUnsure_2 s_unsure s_unsureSpot  N b1 b2 = some x → J C 0 0 [(q_this, .inr (1, [.int s_sets, .int s_ways, .int s_weighed, .int s_linesTold, v_toldAlready, v_memory, .int s_steps, v_stepSpot, v_stepWord, .int s_unsure, .ref q_unsureSpot, v_unsureWord, .int s_seen, v_seenStep, v_seenHit, .int s_fitsKnown, .int s_fitBits])), (q_unsureSpot, .inl (E.2.1 0, 4, .inl s_unsureSpot))] [(0, .ref q_this), (1, .int b1), (2, .int b2)] 2 [] := by
    intro  N
    induction N with
    | zero =>
      intro b1 b2 hf
      rw [fX1_isUnsure_2] at hf
      cases hf
    | succ m ih =>
      intro b1 b2 hf
      rw [fX1_isUnsure_2] at hf
      refine j_iload_n (q := 3) hC dX1_isUnsure_2 rfl rfl 2 rfl ?_
      refine j_aload_n (q := 4) hC dX1_isUnsure_3 rfl rfl 0 rfl ?_
      refine j_get (q := 7) hC zcl_X1 0 9 zw_64 ⟨rfl, rfl, by decide⟩ rfl rfl dX1_isUnsure_4 rfl ?_
      refine j_icmp_ge (tgt := 28) (q := 10) hC dX1_isUnsure_7 (by decide) rfl hf (fun _ hf => ?_) (fun _ hf => ?_)
      · refine j_iconst (q := 29) (v := 0) hC dX1_isUnsure_28 rfl (by decide) ?_
        have hx := Option.some.inj hf
        exact j_zret hC hR rfl dX1_isUnsure_29 (by rw [← hx]) rfl
      · refine j_aload_n (q := 11) hC dX1_isUnsure_10 rfl rfl 0 rfl ?_
        refine j_get (q := 14) hC zcl_X1 0 10 zw_68 ⟨rfl, rfl, by decide⟩ rfl rfl dX1_isUnsure_11 rfl ?_
        refine j_iload_n (q := 15) hC dX1_isUnsure_14 rfl rfl 2 rfl ?_
        refine j_iald (q := 16) hC 1 rfl dX1_isUnsure_15 rfl hf (fun x1 hf => ?_)
        refine j_iload_n (q := 17) hC dX1_isUnsure_16 rfl rfl 1 rfl ?_
        refine j_icmp_ne (tgt := 22) (q := 20) hC dX1_isUnsure_17 (by decide) rfl hf (fun _ hf => ?_) (fun _ hf => ?_)
        · refine j_iinc (q := 25) (v := 1) hC (fun x2 => [(2, .int x2), (0, .ref q_this), (1, .int b1)]) dX1_isUnsure_22 rfl 2 rfl (by decide) (by decide) (fun _ => rfl) hf (fun x2 hf => ?_)
          refine j_goto (tgt := 2) hC dX1_isUnsure_25 (by decide) ?_
          refine j_sub (lv' := [(0, .ref q_this), (1, .int b1), (2, .int x2)]) [1, 2, 0] rfl ?_
          exact ih b1 x2 hf
        · refine j_iconst (q := 21) (v := 1) hC dX1_isUnsure_20 rfl (by decide) ?_
          have hx := Option.some.inj hf
          exact j_zret hC hR rfl dX1_isUnsure_21 (by rw [← hx]) rfl
  unfold fX1_isUnsure at hf
  refine j_sub (lv' := [(0, .ref q_this), (1, .int a1)]) [0, 1] rfl ?_
  refine j_iconst (q := 1) (v := 0) hC dX1_isUnsure_0 rfl (by decide) ?_
  refine j_istore_n (q := 2) (lv' := [(2, .int 0), (0, .ref q_this), (1, .int a1)]) hC dX1_isUnsure_1 rfl rfl (by decide) rfl ?_
  refine j_sub (lv' := [(0, .ref q_this), (1, .int a1), (2, .int 0)]) [1, 2, 0] rfl ?_
  exact B2  zF a1 0 hf
noncomputable def fX1_isSeen_2 (s_seen : Int32) (s_seenStep : (Nat → Int32))  : Nat → Int32 → Int32 → Option (Int32)
  | 0, _, _ => none
  | m + 1, b1, b2 =>
    if s_seen ≤ b2 then (some 0)
    else (zald s_seenStep 6 b2 fun x1 =>
    if x1 = b1 then (some 1)
    else (zlet (b2 + 1) fun x2 =>
    fX1_isSeen_2 s_seen s_seenStep  m b1 x2))
noncomputable def fX1_isSeen (s_seen : Int32) (s_seenStep : (Nat → Int32)) (a1 : Int32) : Option (Int32) :=
  fX1_isSeen_2 s_seen s_seenStep  zF a1 0
set_option maxHeartbeats 4000000 in
set_option maxRecDepth 100000 in
theorem wX1_isSeen (E : zE) (q_this : Nat) (q_seenStep : Nat) (s_sets : Int32) (s_ways : Int32) (s_weighed : Int32) (s_linesTold : Int32) (s_steps : Int32) (s_unsure : Int32) (s_seen : Int32) (s_fitsKnown : Int32) (s_fitBits : Int32) (s_seenStep : (Nat → Int32)) (v_toldAlready : Value) (v_memory : Value) (v_stepSpot : Value) (v_stepWord : Value) (v_unsureSpot : Value) (v_unsureWord : Value) (v_seenHit : Value) (a1 : Int32) (x : Int32) (hf : fX1_isSeen s_seen s_seenStep a1 = some x) (l : Launch) (sz : Nat) : zM l yX1_isSeen cX1_isSeen 3 (some .boolean) { frames := 0, cells := 0, slots := 0, locals := 0 } E [.ref q_this, .int a1] [(q_this, .inr (1, [.int s_sets, .int s_ways, .int s_weighed, .int s_linesTold, v_toldAlready, v_memory, .int s_steps, v_stepSpot, v_stepWord, .int s_unsure, v_unsureSpot, v_unsureWord, .int s_seen, .ref q_seenStep, v_seenHit, .int s_fitsKnown, .int s_fitBits])), (q_seenStep, .inl (E.2.1 0, 6, .inl s_seenStep))] sz (some (.int x)) [(q_this, .inr (1, [.int s_sets, .int s_ways, .int s_weighed, .int s_linesTold, v_toldAlready, v_memory, .int s_steps, v_stepSpot, v_stepWord, .int s_unsure, v_unsureSpot, v_unsureWord, .int s_seen, .ref q_seenStep, v_seenHit, .int s_fitsKnown, .int s_fitBits])), (q_seenStep, .inl (E.2.1 0, 6, .inl s_seenStep))] := by
  refine zEnter (by decide) (Nat.le_of_ble_eq_true rfl) ?_
  intro C hC hR
  change zC C E cX1_isSeen "PackedCache$Plan" 3 _ at hC
  have B2 : ∀ (N : Nat), ∀ (b1 : Int32) (b2 : Int32), fX1_isSeen_2 s_seen s_seenStep  N b1 b2 = some x → J C 0 0 [(q_this, .inr (1, [.int s_sets, .int s_ways, .int s_weighed, .int s_linesTold, v_toldAlready, v_memory, .int s_steps, v_stepSpot, v_stepWord, .int s_unsure, v_unsureSpot, v_unsureWord, .int s_seen, .ref q_seenStep, v_seenHit, .int s_fitsKnown, .int s_fitBits])), (q_seenStep, .inl (E.2.1 0, 6, .inl s_seenStep))] [(0, .ref q_this), (1, .int b1), (2, .int b2)] 2 [] := by
    intro  N
    induction N with
    | zero =>
      intro b1 b2 hf
      rw [fX1_isSeen_2] at hf
      cases hf
    | succ m ih =>
      intro b1 b2 hf
      rw [fX1_isSeen_2] at hf
      refine j_iload_n (q := 3) hC dX1_isSeen_2 rfl rfl 2 rfl ?_
      refine j_aload_n (q := 4) hC dX1_isSeen_3 rfl rfl 0 rfl ?_
      refine j_get (q := 7) hC zcl_X1 0 12 zw_74 ⟨rfl, rfl, by decide⟩ rfl rfl dX1_isSeen_4 rfl ?_
      refine j_icmp_ge (tgt := 28) (q := 10) hC dX1_isSeen_7 (by decide) rfl hf (fun _ hf => ?_) (fun _ hf => ?_)
      · refine j_iconst (q := 29) (v := 0) hC dX1_isSeen_28 rfl (by decide) ?_
        have hx := Option.some.inj hf
        exact j_zret hC hR rfl dX1_isSeen_29 (by rw [← hx]) rfl
      · refine j_aload_n (q := 11) hC dX1_isSeen_10 rfl rfl 0 rfl ?_
        refine j_get (q := 14) hC zcl_X1 0 13 zw_77 ⟨rfl, rfl, by decide⟩ rfl rfl dX1_isSeen_11 rfl ?_
        refine j_iload_n (q := 15) hC dX1_isSeen_14 rfl rfl 2 rfl ?_
        refine j_iald (q := 16) hC 1 rfl dX1_isSeen_15 rfl hf (fun x1 hf => ?_)
        refine j_iload_n (q := 17) hC dX1_isSeen_16 rfl rfl 1 rfl ?_
        refine j_icmp_ne (tgt := 22) (q := 20) hC dX1_isSeen_17 (by decide) rfl hf (fun _ hf => ?_) (fun _ hf => ?_)
        · refine j_iinc (q := 25) (v := 1) hC (fun x2 => [(2, .int x2), (0, .ref q_this), (1, .int b1)]) dX1_isSeen_22 rfl 2 rfl (by decide) (by decide) (fun _ => rfl) hf (fun x2 hf => ?_)
          refine j_goto (tgt := 2) hC dX1_isSeen_25 (by decide) ?_
          refine j_sub (lv' := [(0, .ref q_this), (1, .int b1), (2, .int x2)]) [1, 2, 0] rfl ?_
          exact ih b1 x2 hf
        · refine j_iconst (q := 21) (v := 1) hC dX1_isSeen_20 rfl (by decide) ?_
          have hx := Option.some.inj hf
          exact j_zret hC hR rfl dX1_isSeen_21 (by rw [← hx]) rfl
  unfold fX1_isSeen at hf
  refine j_sub (lv' := [(0, .ref q_this), (1, .int a1)]) [0, 1] rfl ?_
  refine j_iconst (q := 1) (v := 0) hC dX1_isSeen_0 rfl (by decide) ?_
  refine j_istore_n (q := 2) (lv' := [(2, .int 0), (0, .ref q_this), (1, .int a1)]) hC dX1_isSeen_1 rfl rfl (by decide) rfl ?_
  refine j_sub (lv' := [(0, .ref q_this), (1, .int a1), (2, .int 0)]) [1, 2, 0] rfl ?_
  exact B2  zF a1 0 hf
noncomputable def fX1_agrees_2 (s_seen : Int32) (s_seenHit : (Nat → Int32)) (s_seenStep : (Nat → Int32))  : Nat → Int32 → Int32 → Option (Int32)
  | 0, _, _ => none
  | m + 1, b1, b2 =>
    if s_seen ≤ b2 then (some 1)
    else (zald s_seenStep 6 b2 fun x1 =>
    zlet (b1 >>> (x1 &&& 31) : Int32) fun x2 =>
    zlet (x2 &&& 1 : Int32) fun x3 =>
    zald s_seenHit 6 b2 fun x4 =>
    if x3 = x4 then (zlet (b2 + 1) fun x5 =>
    fX1_agrees_2 s_seen s_seenHit s_seenStep  m b1 x5)
    else (some 0))
noncomputable def fX1_agrees (s_seen : Int32) (s_seenHit : (Nat → Int32)) (s_seenStep : (Nat → Int32)) (a1 : Int32) : Option (Int32) :=
  fX1_agrees_2 s_seen s_seenHit s_seenStep  zF a1 0
set_option maxHeartbeats 4000000 in
set_option maxRecDepth 100000 in
theorem wX1_agrees (E : zE) (q_this : Nat) (q_seenHit : Nat) (q_seenStep : Nat) (s_sets : Int32) (s_ways : Int32) (s_weighed : Int32) (s_linesTold : Int32) (s_steps : Int32) (s_unsure : Int32) (s_seen : Int32) (s_fitsKnown : Int32) (s_fitBits : Int32) (s_seenHit : (Nat → Int32)) (s_seenStep : (Nat → Int32)) (v_toldAlready : Value) (v_memory : Value) (v_stepSpot : Value) (v_stepWord : Value) (v_unsureSpot : Value) (v_unsureWord : Value) (a1 : Int32) (x : Int32) (hf : fX1_agrees s_seen s_seenHit s_seenStep a1 = some x) (l : Launch) (sz : Nat) : zM l yX1_agrees cX1_agrees 3 (some .boolean) { frames := 0, cells := 0, slots := 0, locals := 0 } E [.ref q_this, .int a1] [(q_this, .inr (1, [.int s_sets, .int s_ways, .int s_weighed, .int s_linesTold, v_toldAlready, v_memory, .int s_steps, v_stepSpot, v_stepWord, .int s_unsure, v_unsureSpot, v_unsureWord, .int s_seen, .ref q_seenStep, .ref q_seenHit, .int s_fitsKnown, .int s_fitBits])), (q_seenHit, .inl (E.2.1 0, 6, .inl s_seenHit)), (q_seenStep, .inl (E.2.1 0, 6, .inl s_seenStep))] sz (some (.int x)) [(q_this, .inr (1, [.int s_sets, .int s_ways, .int s_weighed, .int s_linesTold, v_toldAlready, v_memory, .int s_steps, v_stepSpot, v_stepWord, .int s_unsure, v_unsureSpot, v_unsureWord, .int s_seen, .ref q_seenStep, .ref q_seenHit, .int s_fitsKnown, .int s_fitBits])), (q_seenHit, .inl (E.2.1 0, 6, .inl s_seenHit)), (q_seenStep, .inl (E.2.1 0, 6, .inl s_seenStep))] := by
  refine zEnter (by decide) (Nat.le_of_ble_eq_true rfl) ?_
  intro C hC hR
  change zC C E cX1_agrees "PackedCache$Plan" 3 _ at hC
  have B2 : ∀ (N : Nat), ∀ (b1 : Int32) (b2 : Int32), fX1_agrees_2 s_seen s_seenHit s_seenStep  N b1 b2 = some x → J C 0 0 [(q_this, .inr (1, [.int s_sets, .int s_ways, .int s_weighed, .int s_linesTold, v_toldAlready, v_memory, .int s_steps, v_stepSpot, v_stepWord, .int s_unsure, v_unsureSpot, v_unsureWord, .int s_seen, .ref q_seenStep, .ref q_seenHit, .int s_fitsKnown, .int s_fitBits])), (q_seenHit, .inl (E.2.1 0, 6, .inl s_seenHit)), (q_seenStep, .inl (E.2.1 0, 6, .inl s_seenStep))] [(0, .ref q_this), (1, .int b1), (2, .int b2)] 2 [] := by
    intro  N
    induction N with
    | zero =>
      intro b1 b2 hf
      rw [fX1_agrees_2] at hf
      cases hf
    | succ m ih =>
      intro b1 b2 hf
      rw [fX1_agrees_2] at hf
      refine j_iload_n (q := 3) hC dX1_agrees_2 rfl rfl 2 rfl ?_
      refine j_aload_n (q := 4) hC dX1_agrees_3 rfl rfl 0 rfl ?_
      refine j_get (q := 7) hC zcl_X1 0 12 zw_74 ⟨rfl, rfl, by decide⟩ rfl rfl dX1_agrees_4 rfl ?_
      refine j_icmp_ge (tgt := 37) (q := 10) hC dX1_agrees_7 (by decide) rfl hf (fun _ hf => ?_) (fun _ hf => ?_)
      · refine j_iconst (q := 38) (v := 1) hC dX1_agrees_37 rfl (by decide) ?_
        have hx := Option.some.inj hf
        exact j_zret hC hR rfl dX1_agrees_38 (by rw [← hx]) rfl
      · refine j_iload_n (q := 11) hC dX1_agrees_10 rfl rfl 1 rfl ?_
        refine j_aload_n (q := 12) hC dX1_agrees_11 rfl rfl 0 rfl ?_
        refine j_get (q := 15) hC zcl_X1 0 13 zw_77 ⟨rfl, rfl, by decide⟩ rfl rfl dX1_agrees_12 rfl ?_
        refine j_iload_n (q := 16) hC dX1_agrees_15 rfl rfl 2 rfl ?_
        refine j_iald (q := 17) hC 2 rfl dX1_agrees_16 rfl hf (fun x1 hf => ?_)
        refine j_ishr (q := 18) hC dX1_agrees_17 rfl hf (fun x2 hf => ?_)
        refine j_iconst (q := 19) (v := 1) hC dX1_agrees_18 rfl (by decide) ?_
        refine j_iand (q := 20) hC dX1_agrees_19 rfl hf (fun x3 hf => ?_)
        refine j_aload_n (q := 21) hC dX1_agrees_20 rfl rfl 0 rfl ?_
        refine j_get (q := 24) hC zcl_X1 0 14 zw_80 ⟨rfl, rfl, by decide⟩ rfl rfl dX1_agrees_21 rfl ?_
        refine j_iload_n (q := 25) hC dX1_agrees_24 rfl rfl 2 rfl ?_
        refine j_iald (q := 26) hC 1 rfl dX1_agrees_25 rfl hf (fun x4 hf => ?_)
        refine j_icmp_eq (tgt := 31) (q := 29) hC dX1_agrees_26 (by decide) rfl hf (fun _ hf => ?_) (fun _ hf => ?_)
        · refine j_iinc (q := 34) (v := 1) hC (fun x5 => [(2, .int x5), (0, .ref q_this), (1, .int b1)]) dX1_agrees_31 rfl 2 rfl (by decide) (by decide) (fun _ => rfl) hf (fun x5 hf => ?_)
          refine j_goto (tgt := 2) hC dX1_agrees_34 (by decide) ?_
          refine j_sub (lv' := [(0, .ref q_this), (1, .int b1), (2, .int x5)]) [1, 2, 0] rfl ?_
          exact ih b1 x5 hf
        · refine j_iconst (q := 30) (v := 0) hC dX1_agrees_29 rfl (by decide) ?_
          have hx := Option.some.inj hf
          exact j_zret hC hR rfl dX1_agrees_30 (by rw [← hx]) rfl
  unfold fX1_agrees at hf
  refine j_sub (lv' := [(0, .ref q_this), (1, .int a1)]) [0, 1] rfl ?_
  refine j_iconst (q := 1) (v := 0) hC dX1_agrees_0 rfl (by decide) ?_
  refine j_istore_n (q := 2) (lv' := [(2, .int 0), (0, .ref q_this), (1, .int a1)]) hC dX1_agrees_1 rfl rfl (by decide) rfl ?_
  refine j_sub (lv' := [(0, .ref q_this), (1, .int a1), (2, .int 0)]) [1, 2, 0] rfl ?_
  exact B2  zF a1 0 hf
