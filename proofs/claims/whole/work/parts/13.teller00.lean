noncomputable def fX4_fail (s_start : Int32) (s_faultFound : Int32) (s_faultPlace : Int32) (a1 : Int32) : Option (Int32 × Int32 × Int32) :=
  some (0, a1, s_start)
set_option maxHeartbeats 4000000 in
set_option maxRecDepth 100000 in
theorem wX4_fail (E : zE) (q_this : Nat) (s_end : Int32) (s_at : Int32) (s_kind : Int32) (s_start : Int32) (s_value : Int32) (s_faultFound : Int32) (s_faultPlace : Int32) (v_text : Value) (v_told : Value) (a1 : Int32) (x : Int32 × Int32 × Int32) (hf : fX4_fail s_start s_faultFound s_faultPlace a1 = some x) (l : Launch) (sz : Nat) : zM l yX4_fail cX4_fail 2 (some .boolean) { frames := 0, cells := 0, slots := 0, locals := 0 } E [.ref q_this, .int a1] [(q_this, .inr (3, [v_text, .int s_end, .int s_at, .int s_kind, .int s_start, .int s_value, v_told, .int s_faultFound, .int s_faultPlace]))] sz (some (.int x.1)) [(q_this, .inr (3, [v_text, .int s_end, .int s_at, .int s_kind, .int s_start, .int s_value, v_told, .int x.2.1, .int x.2.2]))] := by
  refine zEnter (by decide) (Nat.le_of_ble_eq_true rfl) ?_
  intro C hC hR
  change zC C E cX4_fail "PackedCache$Teller" 2 _ at hC
  unfold fX4_fail at hf
  refine j_sub (lv' := [(0, .ref q_this), (1, .int a1)]) [0, 1] rfl ?_
  refine j_aload_n (q := 1) hC dX4_fail_0 rfl rfl 0 rfl ?_
  refine j_iload_n (q := 2) hC dX4_fail_1 rfl rfl 1 rfl ?_
  refine j_put (q := 5) (host := "") hC zcl_X4 0 7 (ws' := [(q_this, .inr (3, [v_text, .int s_end, .int s_at, .int s_kind, .int s_start, .int s_value, v_told, .int a1, .int s_faultPlace]))]) zw_136 ⟨rfl, rfl, by decide, rfl⟩ rfl rfl rfl (Nat.le_of_ble_eq_true rfl) rfl dX4_fail_2 rfl ?_
  refine j_aload_n (q := 6) hC dX4_fail_5 rfl rfl 0 rfl ?_
  refine j_aload_n (q := 7) hC dX4_fail_6 rfl rfl 0 rfl ?_
  refine j_get (q := 10) hC zcl_X4 0 4 zw_133 ⟨rfl, rfl, by decide⟩ rfl rfl dX4_fail_7 rfl ?_
  refine j_put (q := 13) (host := "") hC zcl_X4 0 8 (ws' := [(q_this, .inr (3, [v_text, .int s_end, .int s_at, .int s_kind, .int s_start, .int s_value, v_told, .int a1, .int s_start]))]) zw_138 ⟨rfl, rfl, by decide, rfl⟩ rfl rfl rfl (Nat.le_of_ble_eq_true rfl) rfl dX4_fail_10 rfl ?_
  refine j_iconst (q := 14) (v := 0) hC dX4_fail_13 rfl (by decide) ?_
  have hx := Option.some.inj hf
  exact j_zret hC hR rfl dX4_fail_14 (by rw [← hx]) (by rw [← hx])
noncomputable def fX4_takeRun_5 (s_end : Int32) (s_text : (Nat → Int32))  : Nat → Int32 → Int32 → Int32 → Int32 → Option (Int32 × Int32)
  | 0, _, _, _, _ => none
  | m + 1, b1, b2, s_at, s_value =>
    if s_end ≤ s_at then (some (s_at, s_value))
    else (zald s_text 1200 s_at fun x1 =>
    if x1 < b1 then (some (s_at, s_value))
    else (zald s_text 1200 s_at fun x2 =>
    if b2 < x2 then (some (s_at, s_value))
    else (zlet (10 * s_value : Int32) fun x3 =>
    zald s_text 1200 s_at fun x4 =>
    zlet (x3 + x4 : Int32) fun x5 =>
    zlet (x5 - b1 : Int32) fun x6 =>
    zlet (s_at + 1 : Int32) fun x7 =>
    fX4_takeRun_5 s_end s_text  m b1 b2 x7 x6)))
noncomputable def fX4_takeRun (s_end : Int32) (s_at : Int32) (s_value : Int32) (s_text : (Nat → Int32)) (a1 : Int32) (a2 : Int32) : Option (Int32 × Int32) :=
  fX4_takeRun_5 s_end s_text  zF a1 a2 s_at 0
set_option maxHeartbeats 4000000 in
set_option maxRecDepth 100000 in
theorem wX4_takeRun (E : zE) (q_this : Nat) (q_text : Nat) (s_end : Int32) (s_at : Int32) (s_kind : Int32) (s_start : Int32) (s_value : Int32) (s_faultFound : Int32) (s_faultPlace : Int32) (s_text : (Nat → Int32)) (v_told : Value) (a1 : Int32) (a2 : Int32) (x : Int32 × Int32) (hf : fX4_takeRun s_end s_at s_value s_text a1 a2 = some x) (l : Launch) (sz : Nat) : zM l yX4_takeRun cX4_takeRun 3 none { frames := 0, cells := 0, slots := 0, locals := 0 } E [.ref q_this, .int a1, .int a2] [(q_this, .inr (3, [.ref q_text, .int s_end, .int s_at, .int s_kind, .int s_start, .int s_value, v_told, .int s_faultFound, .int s_faultPlace])), (q_text, .inl (E.2.1 1, 1200, .inl s_text))] sz none [(q_this, .inr (3, [.ref q_text, .int s_end, .int x.1, .int s_kind, .int s_start, .int x.2, v_told, .int s_faultFound, .int s_faultPlace])), (q_text, .inl (E.2.1 1, 1200, .inl s_text))] := by
  refine zEnter (by decide) (Nat.le_of_ble_eq_true rfl) ?_
  intro C hC hR
  change zC C E cX4_takeRun "PackedCache$Teller" 3 _ at hC
  have B5 : ∀ (N : Nat), ∀ (b1 : Int32) (b2 : Int32) (s_at : Int32) (s_value : Int32), fX4_takeRun_5 s_end s_text  N b1 b2 s_at s_value = some x → J C 0 0 [(q_this, .inr (3, [.ref q_text, .int s_end, .int s_at, .int s_kind, .int s_start, .int s_value, v_told, .int s_faultFound, .int s_faultPlace])), (q_text, .inl (E.2.1 1, 1200, .inl s_text))] [(0, .ref q_this), (1, .int b1), (2, .int b2)] 5 [] := by
    intro  N
    induction N with
    | zero =>
      intro b1 b2 s_at s_value hf
      rw [fX4_takeRun_5] at hf
      cases hf
    | succ m ih =>
      intro b1 b2 s_at s_value hf
      rw [fX4_takeRun_5] at hf
      refine j_aload_n (q := 6) hC dX4_takeRun_5 rfl rfl 0 rfl ?_
      refine j_get (q := 9) hC zcl_X4 0 2 zw_131 ⟨rfl, rfl, by decide⟩ rfl rfl dX4_takeRun_6 rfl ?_
      refine j_aload_n (q := 10) hC dX4_takeRun_9 rfl rfl 0 rfl ?_
      refine j_get (q := 13) hC zcl_X4 0 1 zw_130 ⟨rfl, rfl, by decide⟩ rfl rfl dX4_takeRun_10 rfl ?_
      refine j_icmp_ge (tgt := 78) (q := 16) hC dX4_takeRun_13 (by decide) rfl hf (fun _ hf => ?_) (fun _ hf => ?_)
      · have hx := Option.some.inj hf
        exact j_vret hC hR dX4_takeRun_78 rfl (by rw [← hx])
      · refine j_aload_n (q := 17) hC dX4_takeRun_16 rfl rfl 0 rfl ?_
        refine j_get (q := 20) hC zcl_X4 0 0 zw_129 ⟨rfl, rfl, by decide⟩ rfl rfl dX4_takeRun_17 rfl ?_
        refine j_aload_n (q := 21) hC dX4_takeRun_20 rfl rfl 0 rfl ?_
        refine j_get (q := 24) hC zcl_X4 0 2 zw_131 ⟨rfl, rfl, by decide⟩ rfl rfl dX4_takeRun_21 rfl ?_
        refine j_bald (q := 25) hC 1 rfl dX4_takeRun_24 rfl hf (fun x1 hf => ?_)
        refine j_iload_n (q := 26) hC dX4_takeRun_25 rfl rfl 1 rfl ?_
        refine j_icmp_lt (tgt := 78) (q := 29) hC dX4_takeRun_26 (by decide) rfl hf (fun _ hf => ?_) (fun _ hf => ?_)
        · have hx := Option.some.inj hf
          exact j_vret hC hR dX4_takeRun_78 rfl (by rw [← hx])
        · refine j_aload_n (q := 30) hC dX4_takeRun_29 rfl rfl 0 rfl ?_
          refine j_get (q := 33) hC zcl_X4 0 0 zw_129 ⟨rfl, rfl, by decide⟩ rfl rfl dX4_takeRun_30 rfl ?_
          refine j_aload_n (q := 34) hC dX4_takeRun_33 rfl rfl 0 rfl ?_
          refine j_get (q := 37) hC zcl_X4 0 2 zw_131 ⟨rfl, rfl, by decide⟩ rfl rfl dX4_takeRun_34 rfl ?_
          refine j_bald (q := 38) hC 1 rfl dX4_takeRun_37 rfl hf (fun x2 hf => ?_)
          refine j_iload_n (q := 39) hC dX4_takeRun_38 rfl rfl 2 rfl ?_
          refine j_icmp_gt (tgt := 78) (q := 42) hC dX4_takeRun_39 (by decide) rfl hf (fun _ hf => ?_) (fun _ hf => ?_)
          · have hx := Option.some.inj hf
            exact j_vret hC hR dX4_takeRun_78 rfl (by rw [← hx])
          · refine j_aload_n (q := 43) hC dX4_takeRun_42 rfl rfl 0 rfl ?_
            refine j_bipush (q := 45) (v := 10) hC dX4_takeRun_43 rfl (by decide) ?_
            refine j_aload_n (q := 46) hC dX4_takeRun_45 rfl rfl 0 rfl ?_
            refine j_get (q := 49) hC zcl_X4 0 5 zw_134 ⟨rfl, rfl, by decide⟩ rfl rfl dX4_takeRun_46 rfl ?_
            refine j_imul (q := 50) hC dX4_takeRun_49 rfl hf (fun x3 hf => ?_)
            refine j_aload_n (q := 51) hC dX4_takeRun_50 rfl rfl 0 rfl ?_
            refine j_get (q := 54) hC zcl_X4 0 0 zw_129 ⟨rfl, rfl, by decide⟩ rfl rfl dX4_takeRun_51 rfl ?_
            refine j_aload_n (q := 55) hC dX4_takeRun_54 rfl rfl 0 rfl ?_
            refine j_get (q := 58) hC zcl_X4 0 2 zw_131 ⟨rfl, rfl, by decide⟩ rfl rfl dX4_takeRun_55 rfl ?_
            refine j_bald (q := 59) hC 1 rfl dX4_takeRun_58 rfl hf (fun x4 hf => ?_)
            refine j_iadd (q := 60) hC dX4_takeRun_59 rfl hf (fun x5 hf => ?_)
            refine j_iload_n (q := 61) hC dX4_takeRun_60 rfl rfl 1 rfl ?_
            refine j_isub (q := 62) hC dX4_takeRun_61 rfl hf (fun x6 hf => ?_)
            refine j_put (q := 65) (host := "") hC zcl_X4 0 5 (ws' := [(q_this, .inr (3, [.ref q_text, .int s_end, .int s_at, .int s_kind, .int s_start, .int x6, v_told, .int s_faultFound, .int s_faultPlace])), (q_text, .inl (E.2.1 1, 1200, .inl s_text))]) zw_134 ⟨rfl, rfl, by decide, rfl⟩ rfl rfl rfl (Nat.le_of_ble_eq_true rfl) rfl dX4_takeRun_62 rfl ?_
            refine j_aload_n (q := 66) hC dX4_takeRun_65 rfl rfl 0 rfl ?_
            refine j_dup (q := 67) hC dX4_takeRun_66 rfl rfl ?_
            refine j_get (q := 70) hC zcl_X4 0 2 zw_131 ⟨rfl, rfl, by decide⟩ rfl rfl dX4_takeRun_67 rfl ?_
            refine j_iconst (q := 71) (v := 1) hC dX4_takeRun_70 rfl (by decide) ?_
            refine j_iadd (q := 72) hC dX4_takeRun_71 rfl hf (fun x7 hf => ?_)
            refine j_put (q := 75) (host := "") hC zcl_X4 0 2 (ws' := [(q_this, .inr (3, [.ref q_text, .int s_end, .int x7, .int s_kind, .int s_start, .int x6, v_told, .int s_faultFound, .int s_faultPlace])), (q_text, .inl (E.2.1 1, 1200, .inl s_text))]) zw_131 ⟨rfl, rfl, by decide, rfl⟩ rfl rfl rfl (Nat.le_of_ble_eq_true rfl) rfl dX4_takeRun_72 rfl ?_
            refine j_goto (tgt := 5) hC dX4_takeRun_75 (by decide) ?_
            exact ih b1 b2 x7 x6 hf
  unfold fX4_takeRun at hf
  refine j_sub (lv' := [(0, .ref q_this), (1, .int a1), (2, .int a2)]) [0, 1, 2] rfl ?_
  refine j_aload_n (q := 1) hC dX4_takeRun_0 rfl rfl 0 rfl ?_
  refine j_iconst (q := 2) (v := 0) hC dX4_takeRun_1 rfl (by decide) ?_
  refine j_put (q := 5) (host := "") hC zcl_X4 0 5 (ws' := [(q_this, .inr (3, [.ref q_text, .int s_end, .int s_at, .int s_kind, .int s_start, .int 0, v_told, .int s_faultFound, .int s_faultPlace])), (q_text, .inl (E.2.1 1, 1200, .inl s_text))]) zw_134 ⟨rfl, rfl, by decide, rfl⟩ rfl rfl rfl (Nat.le_of_ble_eq_true rfl) rfl dX4_takeRun_2 rfl ?_
  exact B5  zF a1 a2 s_at 0 hf
noncomputable def fX4_takeToken_159 (s_end : Int32) (s_text : (Nat → Int32))  (s_at : Int32) (s_kind : Int32) (s_start : Int32) (s_value : Int32) : Option (Int32 × Int32 × Int32 × Int32) :=
  zald s_text 1200 s_at fun x1 =>
    if x1 < 48 then (some (s_at, 4, s_start, s_value))
    else (zald s_text 1200 s_at fun x2 =>
    if 57 < x2 then (some (s_at, 4, s_start, s_value))
    else ((fX4_takeRun s_end s_at s_value s_text 48 57).bind fun x3 =>
    zlet (x3.1 - s_start : Int32) fun x4 =>
    if 5 < x4 then (some (x3.1, 4, s_start, x3.2))
    else (some (x3.1, 2, s_start, x3.2))))
noncomputable def fX4_takeToken_38 (s_end : Int32) (s_text : (Nat → Int32))  (s_at : Int32) (s_kind : Int32) (s_start : Int32) (s_value : Int32) : Option (Int32 × Int32 × Int32 × Int32) :=
  if s_at < s_end then (zald s_text 1200 s_at fun x1 =>
    if x1 = 59 then (zlet (s_at + 1 : Int32) fun x6 =>
    some (x6, 3, s_at, s_value))
    else (zald s_text 1200 s_at fun x2 =>
    if x2 < 97 then (fX4_takeToken_159 s_end s_text  s_at s_kind s_at s_value)
    else (zald s_text 1200 s_at fun x3 =>
    if 122 < x3 then (fX4_takeToken_159 s_end s_text  s_at s_kind s_at s_value)
    else ((fX4_takeRun s_end s_at s_value s_text 97 122).bind fun x4 =>
    zlet (x4.1 - s_at : Int32) fun x5 =>
    if 8 < x5 then (some (x4.1, 4, s_at, x4.2))
    else (some (x4.1, 1, s_at, x4.2))))))
    else (some (s_at, 0, s_at, s_value))
noncomputable def fX4_takeToken_0 (s_end : Int32) (s_text : (Nat → Int32))  : Nat → Int32 → Int32 → Int32 → Int32 → Option (Int32 × Int32 × Int32 × Int32)
  | 0, _, _, _, _ => none
  | m + 1, s_at, s_kind, s_start, s_value =>
    if s_end ≤ s_at then (fX4_takeToken_38 s_end s_text  s_at s_kind s_start s_value)
    else (zald s_text 1200 s_at fun x1 =>
    if x1 = 32 then (zlet (s_at + 1 : Int32) fun x2 =>
    fX4_takeToken_0 s_end s_text  m x2 s_kind s_start s_value)
    else (fX4_takeToken_38 s_end s_text  s_at s_kind s_start s_value))
noncomputable def fX4_takeToken (s_end : Int32) (s_at : Int32) (s_kind : Int32) (s_start : Int32) (s_value : Int32) (s_text : (Nat → Int32)) : Option (Int32 × Int32 × Int32 × Int32) :=
  fX4_takeToken_0 s_end s_text  zF s_at s_kind s_start s_value
set_option maxHeartbeats 4000000 in
set_option maxRecDepth 100000 in
theorem wX4_takeToken (E : zE) (q_this : Nat) (q_text : Nat) (s_end : Int32) (s_at : Int32) (s_kind : Int32) (s_start : Int32) (s_value : Int32) (s_faultFound : Int32) (s_faultPlace : Int32) (s_text : (Nat → Int32)) (v_told : Value) (x : Int32 × Int32 × Int32 × Int32) (hf : fX4_takeToken s_end s_at s_kind s_start s_value s_text = some x) (l : Launch) (sz : Nat) : zM l yX4_takeToken cX4_takeToken 1 none { frames := 1, cells := 0, slots := 0, locals := 22 } E [.ref q_this] [(q_this, .inr (3, [.ref q_text, .int s_end, .int s_at, .int s_kind, .int s_start, .int s_value, v_told, .int s_faultFound, .int s_faultPlace])), (q_text, .inl (E.2.1 1, 1200, .inl s_text))] sz none [(q_this, .inr (3, [.ref q_text, .int s_end, .int x.1, .int x.2.1, .int x.2.2.1, .int x.2.2.2, v_told, .int s_faultFound, .int s_faultPlace])), (q_text, .inl (E.2.1 1, 1200, .inl s_text))] := by
  refine zEnter (by decide) (Nat.le_of_ble_eq_true rfl) ?_
  intro C hC hR
  change zC C E cX4_takeToken "PackedCache$Teller" 1 _ at hC
  have B159 : ∀ (s_at : Int32) (s_kind : Int32) (s_start : Int32) (s_value : Int32), fX4_takeToken_159 s_end s_text  s_at s_kind s_start s_value = some x → J C 0 0 [(q_this, .inr (3, [.ref q_text, .int s_end, .int s_at, .int s_kind, .int s_start, .int s_value, v_told, .int s_faultFound, .int s_faultPlace])), (q_text, .inl (E.2.1 1, 1200, .inl s_text))] [(0, .ref q_this)] 159 [] := by
    intro  s_at s_kind s_start s_value hf
    unfold fX4_takeToken_159 at hf
    refine j_aload_n (q := 160) hC dX4_takeToken_159 rfl rfl 0 rfl ?_
    refine j_get (q := 163) hC zcl_X4 0 0 zw_129 ⟨rfl, rfl, by decide⟩ rfl rfl dX4_takeToken_160 rfl ?_
    refine j_aload_n (q := 164) hC dX4_takeToken_163 rfl rfl 0 rfl ?_
    refine j_get (q := 167) hC zcl_X4 0 2 zw_131 ⟨rfl, rfl, by decide⟩ rfl rfl dX4_takeToken_164 rfl ?_
    refine j_bald (q := 168) hC 1 rfl dX4_takeToken_167 rfl hf (fun x1 hf => ?_)
    refine j_bipush (q := 170) (v := 48) hC dX4_takeToken_168 rfl (by decide) ?_
    refine j_icmp_lt (tgt := 220) (q := 173) hC dX4_takeToken_170 (by decide) rfl hf (fun _ hf => ?_) (fun _ hf => ?_)
    · refine j_aload_n (q := 221) hC dX4_takeToken_220 rfl rfl 0 rfl ?_
      refine j_iconst (q := 222) (v := 4) hC dX4_takeToken_221 rfl (by decide) ?_
      refine j_put (q := 225) (host := "") hC zcl_X4 0 3 (ws' := [(q_this, .inr (3, [.ref q_text, .int s_end, .int s_at, .int 4, .int s_start, .int s_value, v_told, .int s_faultFound, .int s_faultPlace])), (q_text, .inl (E.2.1 1, 1200, .inl s_text))]) zw_132 ⟨rfl, rfl, by decide, rfl⟩ rfl rfl rfl (Nat.le_of_ble_eq_true rfl) rfl dX4_takeToken_222 rfl ?_
      have hx := Option.some.inj hf
      exact j_vret hC hR dX4_takeToken_225 rfl (by rw [← hx])
    · refine j_aload_n (q := 174) hC dX4_takeToken_173 rfl rfl 0 rfl ?_
      refine j_get (q := 177) hC zcl_X4 0 0 zw_129 ⟨rfl, rfl, by decide⟩ rfl rfl dX4_takeToken_174 rfl ?_
      refine j_aload_n (q := 178) hC dX4_takeToken_177 rfl rfl 0 rfl ?_
      refine j_get (q := 181) hC zcl_X4 0 2 zw_131 ⟨rfl, rfl, by decide⟩ rfl rfl dX4_takeToken_178 rfl ?_
      refine j_bald (q := 182) hC 1 rfl dX4_takeToken_181 rfl hf (fun x2 hf => ?_)
      refine j_bipush (q := 184) (v := 57) hC dX4_takeToken_182 rfl (by decide) ?_
      refine j_icmp_gt (tgt := 220) (q := 187) hC dX4_takeToken_184 (by decide) rfl hf (fun _ hf => ?_) (fun _ hf => ?_)
      · refine j_aload_n (q := 221) hC dX4_takeToken_220 rfl rfl 0 rfl ?_
        refine j_iconst (q := 222) (v := 4) hC dX4_takeToken_221 rfl (by decide) ?_
        refine j_put (q := 225) (host := "") hC zcl_X4 0 3 (ws' := [(q_this, .inr (3, [.ref q_text, .int s_end, .int s_at, .int 4, .int s_start, .int s_value, v_told, .int s_faultFound, .int s_faultPlace])), (q_text, .inl (E.2.1 1, 1200, .inl s_text))]) zw_132 ⟨rfl, rfl, by decide, rfl⟩ rfl rfl rfl (Nat.le_of_ble_eq_true rfl) rfl dX4_takeToken_222 rfl ?_
        have hx := Option.some.inj hf
        exact j_vret hC hR dX4_takeToken_225 rfl (by rw [← hx])
      · refine j_aload_n (q := 188) hC dX4_takeToken_187 rfl rfl 0 rfl ?_
        refine j_bipush (q := 190) (v := 48) hC dX4_takeToken_188 rfl (by decide) ?_
        refine j_bipush (q := 192) (v := 57) hC dX4_takeToken_190 rfl (by decide) ?_
        refine j_callV (q := 195) hC [.int 48, .int 57] [] (fun x3 : Int32 × Int32 => none) (fun x3 => [(q_this, .inr (3, [.ref q_text, .int s_end, .int x3.1, .int s_kind, .int s_start, .int x3.2, v_told, .int s_faultFound, .int s_faultPlace])), (q_text, .inl (E.2.1 1, 1200, .inl s_text))]) (fun x3 => [(q_this, .inr (3, [.ref q_text, .int s_end, .int x3.1, .int s_kind, .int s_start, .int x3.2, v_told, .int s_faultFound, .int s_faultPlace])), (q_text, .inl (E.2.1 1, 1200, .inl s_text))]) (fun x3 => []) [0, 1] [] hf (fun x3 hx => wX4_takeRun E q_this q_text s_end s_at s_kind s_start s_value s_faultFound s_faultPlace s_text (v_told) 48 57 x3  hx) zy_X4_takeRun zw_313 (by unfold zRm; decide) rfl rfl (fun _ => rfl) (N := 2) (by decide) (fun _ => ⟨rfl, rfl, rfl⟩) rfl rfl rfl (Nat.le_of_ble_eq_true rfl) dX4_takeToken_192 rfl rfl (fun _ => rfl) (fun x3 hf => ?_)
        refine j_aload_n (q := 196) hC dX4_takeToken_195 rfl rfl 0 rfl ?_
        refine j_aload_n (q := 197) hC dX4_takeToken_196 rfl rfl 0 rfl ?_
        refine j_get (q := 200) hC zcl_X4 0 2 zw_131 ⟨rfl, rfl, by decide⟩ rfl rfl dX4_takeToken_197 rfl ?_
        refine j_aload_n (q := 201) hC dX4_takeToken_200 rfl rfl 0 rfl ?_
        refine j_get (q := 204) hC zcl_X4 0 4 zw_133 ⟨rfl, rfl, by decide⟩ rfl rfl dX4_takeToken_201 rfl ?_
        refine j_isub (q := 205) hC dX4_takeToken_204 rfl hf (fun x4 hf => ?_)
        refine j_iconst (q := 206) (v := 5) hC dX4_takeToken_205 rfl (by decide) ?_
        refine j_icmp_gt (tgt := 213) (q := 209) hC dX4_takeToken_206 (by decide) rfl hf (fun _ hf => ?_) (fun _ hf => ?_)
        · refine j_iconst (q := 214) (v := 4) hC dX4_takeToken_213 rfl (by decide) ?_
          refine j_put (q := 217) (host := "") hC zcl_X4 0 3 (ws' := [(q_this, .inr (3, [.ref q_text, .int s_end, .int x3.1, .int 4, .int s_start, .int x3.2, v_told, .int s_faultFound, .int s_faultPlace])), (q_text, .inl (E.2.1 1, 1200, .inl s_text))]) zw_132 ⟨rfl, rfl, by decide, rfl⟩ rfl rfl rfl (Nat.le_of_ble_eq_true rfl) rfl dX4_takeToken_214 rfl ?_
          refine j_goto (tgt := 225) hC dX4_takeToken_217 (by decide) ?_
          have hx := Option.some.inj hf
          exact j_vret hC hR dX4_takeToken_225 rfl (by rw [← hx])
        · refine j_iconst (q := 210) (v := 2) hC dX4_takeToken_209 rfl (by decide) ?_
          refine j_goto (tgt := 214) hC dX4_takeToken_210 (by decide) ?_
          refine j_put (q := 217) (host := "") hC zcl_X4 0 3 (ws' := [(q_this, .inr (3, [.ref q_text, .int s_end, .int x3.1, .int 2, .int s_start, .int x3.2, v_told, .int s_faultFound, .int s_faultPlace])), (q_text, .inl (E.2.1 1, 1200, .inl s_text))]) zw_132 ⟨rfl, rfl, by decide, rfl⟩ rfl rfl rfl (Nat.le_of_ble_eq_true rfl) rfl dX4_takeToken_214 rfl ?_
          refine j_goto (tgt := 225) hC dX4_takeToken_217 (by decide) ?_
          have hx := Option.some.inj hf
          exact j_vret hC hR dX4_takeToken_225 rfl (by rw [← hx])
  have B38 : ∀ (s_at : Int32) (s_kind : Int32) (s_start : Int32) (s_value : Int32), fX4_takeToken_38 s_end s_text  s_at s_kind s_start s_value = some x → J C 0 0 [(q_this, .inr (3, [.ref q_text, .int s_end, .int s_at, .int s_kind, .int s_start, .int s_value, v_told, .int s_faultFound, .int s_faultPlace])), (q_text, .inl (E.2.1 1, 1200, .inl s_text))] [(0, .ref q_this)] 38 [] := by
    intro  s_at s_kind s_start s_value hf
    unfold fX4_takeToken_38 at hf
    refine j_aload_n (q := 39) hC dX4_takeToken_38 rfl rfl 0 rfl ?_
    refine j_aload_n (q := 40) hC dX4_takeToken_39 rfl rfl 0 rfl ?_
    refine j_get (q := 43) hC zcl_X4 0 2 zw_131 ⟨rfl, rfl, by decide⟩ rfl rfl dX4_takeToken_40 rfl ?_
    refine j_put (q := 46) (host := "") hC zcl_X4 0 4 (ws' := [(q_this, .inr (3, [.ref q_text, .int s_end, .int s_at, .int s_kind, .int s_at, .int s_value, v_told, .int s_faultFound, .int s_faultPlace])), (q_text, .inl (E.2.1 1, 1200, .inl s_text))]) zw_133 ⟨rfl, rfl, by decide, rfl⟩ rfl rfl rfl (Nat.le_of_ble_eq_true rfl) rfl dX4_takeToken_43 rfl ?_
    refine j_aload_n (q := 47) hC dX4_takeToken_46 rfl rfl 0 rfl ?_
    refine j_get (q := 50) hC zcl_X4 0 2 zw_131 ⟨rfl, rfl, by decide⟩ rfl rfl dX4_takeToken_47 rfl ?_
    refine j_aload_n (q := 51) hC dX4_takeToken_50 rfl rfl 0 rfl ?_
    refine j_get (q := 54) hC zcl_X4 0 1 zw_130 ⟨rfl, rfl, by decide⟩ rfl rfl dX4_takeToken_51 rfl ?_
    refine j_icmp_lt (tgt := 65) (q := 57) hC dX4_takeToken_54 (by decide) rfl hf (fun _ hf => ?_) (fun _ hf => ?_)
    · refine j_aload_n (q := 66) hC dX4_takeToken_65 rfl rfl 0 rfl ?_
      refine j_get (q := 69) hC zcl_X4 0 0 zw_129 ⟨rfl, rfl, by decide⟩ rfl rfl dX4_takeToken_66 rfl ?_
      refine j_aload_n (q := 70) hC dX4_takeToken_69 rfl rfl 0 rfl ?_
      refine j_get (q := 73) hC zcl_X4 0 2 zw_131 ⟨rfl, rfl, by decide⟩ rfl rfl dX4_takeToken_70 rfl ?_
      refine j_bald (q := 74) hC 1 rfl dX4_takeToken_73 rfl hf (fun x1 hf => ?_)
      refine j_bipush (q := 76) (v := 59) hC dX4_takeToken_74 rfl (by decide) ?_
      refine j_icmp_ne (tgt := 97) (q := 79) hC dX4_takeToken_76 (by decide) rfl hf (fun _ hf => ?_) (fun _ hf => ?_)
      · refine j_aload_n (q := 98) hC dX4_takeToken_97 rfl rfl 0 rfl ?_
        refine j_get (q := 101) hC zcl_X4 0 0 zw_129 ⟨rfl, rfl, by decide⟩ rfl rfl dX4_takeToken_98 rfl ?_
        refine j_aload_n (q := 102) hC dX4_takeToken_101 rfl rfl 0 rfl ?_
        refine j_get (q := 105) hC zcl_X4 0 2 zw_131 ⟨rfl, rfl, by decide⟩ rfl rfl dX4_takeToken_102 rfl ?_
        refine j_bald (q := 106) hC 1 rfl dX4_takeToken_105 rfl hf (fun x2 hf => ?_)
        refine j_bipush (q := 108) (v := 97) hC dX4_takeToken_106 rfl (by decide) ?_
        refine j_icmp_lt (tgt := 159) (q := 111) hC dX4_takeToken_108 (by decide) rfl hf (fun _ hf => ?_) (fun _ hf => ?_)
        · exact B159  s_at s_kind s_at s_value hf
        · refine j_aload_n (q := 112) hC dX4_takeToken_111 rfl rfl 0 rfl ?_
          refine j_get (q := 115) hC zcl_X4 0 0 zw_129 ⟨rfl, rfl, by decide⟩ rfl rfl dX4_takeToken_112 rfl ?_
          refine j_aload_n (q := 116) hC dX4_takeToken_115 rfl rfl 0 rfl ?_
          refine j_get (q := 119) hC zcl_X4 0 2 zw_131 ⟨rfl, rfl, by decide⟩ rfl rfl dX4_takeToken_116 rfl ?_
          refine j_bald (q := 120) hC 1 rfl dX4_takeToken_119 rfl hf (fun x3 hf => ?_)
          refine j_bipush (q := 122) (v := 122) hC dX4_takeToken_120 rfl (by decide) ?_
          refine j_icmp_gt (tgt := 159) (q := 125) hC dX4_takeToken_122 (by decide) rfl hf (fun _ hf => ?_) (fun _ hf => ?_)
          · exact B159  s_at s_kind s_at s_value hf
          · refine j_aload_n (q := 126) hC dX4_takeToken_125 rfl rfl 0 rfl ?_
            refine j_bipush (q := 128) (v := 97) hC dX4_takeToken_126 rfl (by decide) ?_
            refine j_bipush (q := 130) (v := 122) hC dX4_takeToken_128 rfl (by decide) ?_
            refine j_callV (q := 133) hC [.int 97, .int 122] [] (fun x4 : Int32 × Int32 => none) (fun x4 => [(q_this, .inr (3, [.ref q_text, .int s_end, .int x4.1, .int s_kind, .int s_at, .int x4.2, v_told, .int s_faultFound, .int s_faultPlace])), (q_text, .inl (E.2.1 1, 1200, .inl s_text))]) (fun x4 => [(q_this, .inr (3, [.ref q_text, .int s_end, .int x4.1, .int s_kind, .int s_at, .int x4.2, v_told, .int s_faultFound, .int s_faultPlace])), (q_text, .inl (E.2.1 1, 1200, .inl s_text))]) (fun x4 => []) [0, 1] [] hf (fun x4 hx => wX4_takeRun E q_this q_text s_end s_at s_kind s_at s_value s_faultFound s_faultPlace s_text (v_told) 97 122 x4  hx) zy_X4_takeRun zw_313 (by unfold zRm; decide) rfl rfl (fun _ => rfl) (N := 2) (by decide) (fun _ => ⟨rfl, rfl, rfl⟩) rfl rfl rfl (Nat.le_of_ble_eq_true rfl) dX4_takeToken_130 rfl rfl (fun _ => rfl) (fun x4 hf => ?_)
            refine j_aload_n (q := 134) hC dX4_takeToken_133 rfl rfl 0 rfl ?_
            refine j_aload_n (q := 135) hC dX4_takeToken_134 rfl rfl 0 rfl ?_
            refine j_get (q := 138) hC zcl_X4 0 2 zw_131 ⟨rfl, rfl, by decide⟩ rfl rfl dX4_takeToken_135 rfl ?_
            refine j_aload_n (q := 139) hC dX4_takeToken_138 rfl rfl 0 rfl ?_
            refine j_get (q := 142) hC zcl_X4 0 4 zw_133 ⟨rfl, rfl, by decide⟩ rfl rfl dX4_takeToken_139 rfl ?_
            refine j_isub (q := 143) hC dX4_takeToken_142 rfl hf (fun x5 hf => ?_)
            refine j_bipush (q := 145) (v := 8) hC dX4_takeToken_143 rfl (by decide) ?_
            refine j_icmp_gt (tgt := 152) (q := 148) hC dX4_takeToken_145 (by decide) rfl hf (fun _ hf => ?_) (fun _ hf => ?_)
            · refine j_iconst (q := 153) (v := 4) hC dX4_takeToken_152 rfl (by decide) ?_
              refine j_put (q := 156) (host := "") hC zcl_X4 0 3 (ws' := [(q_this, .inr (3, [.ref q_text, .int s_end, .int x4.1, .int 4, .int s_at, .int x4.2, v_told, .int s_faultFound, .int s_faultPlace])), (q_text, .inl (E.2.1 1, 1200, .inl s_text))]) zw_132 ⟨rfl, rfl, by decide, rfl⟩ rfl rfl rfl (Nat.le_of_ble_eq_true rfl) rfl dX4_takeToken_153 rfl ?_
              refine j_goto (tgt := 225) hC dX4_takeToken_156 (by decide) ?_
              have hx := Option.some.inj hf
              exact j_vret hC hR dX4_takeToken_225 rfl (by rw [← hx])
            · refine j_iconst (q := 149) (v := 1) hC dX4_takeToken_148 rfl (by decide) ?_
              refine j_goto (tgt := 153) hC dX4_takeToken_149 (by decide) ?_
              refine j_put (q := 156) (host := "") hC zcl_X4 0 3 (ws' := [(q_this, .inr (3, [.ref q_text, .int s_end, .int x4.1, .int 1, .int s_at, .int x4.2, v_told, .int s_faultFound, .int s_faultPlace])), (q_text, .inl (E.2.1 1, 1200, .inl s_text))]) zw_132 ⟨rfl, rfl, by decide, rfl⟩ rfl rfl rfl (Nat.le_of_ble_eq_true rfl) rfl dX4_takeToken_153 rfl ?_
              refine j_goto (tgt := 225) hC dX4_takeToken_156 (by decide) ?_
              have hx := Option.some.inj hf
              exact j_vret hC hR dX4_takeToken_225 rfl (by rw [← hx])
      · refine j_aload_n (q := 80) hC dX4_takeToken_79 rfl rfl 0 rfl ?_
        refine j_iconst (q := 81) (v := 3) hC dX4_takeToken_80 rfl (by decide) ?_
        refine j_put (q := 84) (host := "") hC zcl_X4 0 3 (ws' := [(q_this, .inr (3, [.ref q_text, .int s_end, .int s_at, .int 3, .int s_at, .int s_value, v_told, .int s_faultFound, .int s_faultPlace])), (q_text, .inl (E.2.1 1, 1200, .inl s_text))]) zw_132 ⟨rfl, rfl, by decide, rfl⟩ rfl rfl rfl (Nat.le_of_ble_eq_true rfl) rfl dX4_takeToken_81 rfl ?_
        refine j_aload_n (q := 85) hC dX4_takeToken_84 rfl rfl 0 rfl ?_
        refine j_dup (q := 86) hC dX4_takeToken_85 rfl rfl ?_
        refine j_get (q := 89) hC zcl_X4 0 2 zw_131 ⟨rfl, rfl, by decide⟩ rfl rfl dX4_takeToken_86 rfl ?_
        refine j_iconst (q := 90) (v := 1) hC dX4_takeToken_89 rfl (by decide) ?_
        refine j_iadd (q := 91) hC dX4_takeToken_90 rfl hf (fun x6 hf => ?_)
        refine j_put (q := 94) (host := "") hC zcl_X4 0 2 (ws' := [(q_this, .inr (3, [.ref q_text, .int s_end, .int x6, .int 3, .int s_at, .int s_value, v_told, .int s_faultFound, .int s_faultPlace])), (q_text, .inl (E.2.1 1, 1200, .inl s_text))]) zw_131 ⟨rfl, rfl, by decide, rfl⟩ rfl rfl rfl (Nat.le_of_ble_eq_true rfl) rfl dX4_takeToken_91 rfl ?_
        refine j_goto (tgt := 225) hC dX4_takeToken_94 (by decide) ?_
        have hx := Option.some.inj hf
        exact j_vret hC hR dX4_takeToken_225 rfl (by rw [← hx])
    · refine j_aload_n (q := 58) hC dX4_takeToken_57 rfl rfl 0 rfl ?_
      refine j_iconst (q := 59) (v := 0) hC dX4_takeToken_58 rfl (by decide) ?_
      refine j_put (q := 62) (host := "") hC zcl_X4 0 3 (ws' := [(q_this, .inr (3, [.ref q_text, .int s_end, .int s_at, .int 0, .int s_at, .int s_value, v_told, .int s_faultFound, .int s_faultPlace])), (q_text, .inl (E.2.1 1, 1200, .inl s_text))]) zw_132 ⟨rfl, rfl, by decide, rfl⟩ rfl rfl rfl (Nat.le_of_ble_eq_true rfl) rfl dX4_takeToken_59 rfl ?_
      refine j_goto (tgt := 225) hC dX4_takeToken_62 (by decide) ?_
      have hx := Option.some.inj hf
      exact j_vret hC hR dX4_takeToken_225 rfl (by rw [← hx])
  have B0 : ∀ (N : Nat), ∀ (s_at : Int32) (s_kind : Int32) (s_start : Int32) (s_value : Int32), fX4_takeToken_0 s_end s_text  N s_at s_kind s_start s_value = some x → J C 0 0 [(q_this, .inr (3, [.ref q_text, .int s_end, .int s_at, .int s_kind, .int s_start, .int s_value, v_told, .int s_faultFound, .int s_faultPlace])), (q_text, .inl (E.2.1 1, 1200, .inl s_text))] [(0, .ref q_this)] 0 [] := by
    intro  N
    induction N with
    | zero =>
      intro s_at s_kind s_start s_value hf
      rw [fX4_takeToken_0] at hf
      cases hf
    | succ m ih =>
      intro s_at s_kind s_start s_value hf
      rw [fX4_takeToken_0] at hf
      refine j_aload_n (q := 1) hC dX4_takeToken_0 rfl rfl 0 rfl ?_
      refine j_get (q := 4) hC zcl_X4 0 2 zw_131 ⟨rfl, rfl, by decide⟩ rfl rfl dX4_takeToken_1 rfl ?_
      refine j_aload_n (q := 5) hC dX4_takeToken_4 rfl rfl 0 rfl ?_
      refine j_get (q := 8) hC zcl_X4 0 1 zw_130 ⟨rfl, rfl, by decide⟩ rfl rfl dX4_takeToken_5 rfl ?_
      refine j_icmp_ge (tgt := 38) (q := 11) hC dX4_takeToken_8 (by decide) rfl hf (fun _ hf => ?_) (fun _ hf => ?_)
      · exact B38  s_at s_kind s_start s_value hf
      · refine j_aload_n (q := 12) hC dX4_takeToken_11 rfl rfl 0 rfl ?_
        refine j_get (q := 15) hC zcl_X4 0 0 zw_129 ⟨rfl, rfl, by decide⟩ rfl rfl dX4_takeToken_12 rfl ?_
        refine j_aload_n (q := 16) hC dX4_takeToken_15 rfl rfl 0 rfl ?_
        refine j_get (q := 19) hC zcl_X4 0 2 zw_131 ⟨rfl, rfl, by decide⟩ rfl rfl dX4_takeToken_16 rfl ?_
        refine j_bald (q := 20) hC 1 rfl dX4_takeToken_19 rfl hf (fun x1 hf => ?_)
        refine j_bipush (q := 22) (v := 32) hC dX4_takeToken_20 rfl (by decide) ?_
        refine j_icmp_ne (tgt := 38) (q := 25) hC dX4_takeToken_22 (by decide) rfl hf (fun _ hf => ?_) (fun _ hf => ?_)
        · exact B38  s_at s_kind s_start s_value hf
        · refine j_aload_n (q := 26) hC dX4_takeToken_25 rfl rfl 0 rfl ?_
          refine j_dup (q := 27) hC dX4_takeToken_26 rfl rfl ?_
          refine j_get (q := 30) hC zcl_X4 0 2 zw_131 ⟨rfl, rfl, by decide⟩ rfl rfl dX4_takeToken_27 rfl ?_
          refine j_iconst (q := 31) (v := 1) hC dX4_takeToken_30 rfl (by decide) ?_
          refine j_iadd (q := 32) hC dX4_takeToken_31 rfl hf (fun x2 hf => ?_)
          refine j_put (q := 35) (host := "") hC zcl_X4 0 2 (ws' := [(q_this, .inr (3, [.ref q_text, .int s_end, .int x2, .int s_kind, .int s_start, .int s_value, v_told, .int s_faultFound, .int s_faultPlace])), (q_text, .inl (E.2.1 1, 1200, .inl s_text))]) zw_131 ⟨rfl, rfl, by decide, rfl⟩ rfl rfl rfl (Nat.le_of_ble_eq_true rfl) rfl dX4_takeToken_32 rfl ?_
          refine j_goto (tgt := 0) hC dX4_takeToken_35 (by decide) ?_
          exact ih x2 s_kind s_start s_value hf
  unfold fX4_takeToken at hf
  refine j_sub (lv' := [(0, .ref q_this)]) [0] rfl ?_
  exact B0  zF s_at s_kind s_start s_value hf
noncomputable def fX4_isName_28 (j1 : Nat) (s_at : Int32) (s_kind : Int32) (s_start : Int32) (s_text : (Nat → Int32))  : Nat → Int32 → Option (Int32)
  | 0, _ => none
  | m + 1, b2 =>
    (fJ_len j1 ).bind fun x1 =>
    if x1 ≤ b2 then (some 1)
    else (zlet (s_start + b2 : Int32) fun x2 =>
    zald s_text 1200 x2 fun x3 =>
    (fJ_charAt j1 b2).bind fun x4 =>
    if x3 = x4 then (zlet (b2 + 1) fun x5 =>
    fX4_isName_28 j1 s_at s_kind s_start s_text  m x5)
    else (some 0))
noncomputable def fX4_isName (j1 : Nat) (s_at : Int32) (s_kind : Int32) (s_start : Int32) (s_text : (Nat → Int32)) : Option (Int32) :=
  if s_kind = 1 then (zlet (s_at - s_start : Int32) fun x1 =>
    (fJ_len j1 ).bind fun x2 =>
    if x1 = x2 then (fX4_isName_28 j1 s_at s_kind s_start s_text  zF 0)
    else (some 0))
    else (some 0)
set_option maxHeartbeats 4000000 in
set_option maxRecDepth 100000 in
theorem wX4_isName (E : zE) (q_this : Nat) (q_text : Nat) (s_end : Int32) (s_at : Int32) (s_kind : Int32) (s_start : Int32) (s_value : Int32) (s_faultFound : Int32) (s_faultPlace : Int32) (s_text : (Nat → Int32)) (v_told : Value) (j1 : Nat) (x : Int32) (hj1 : j1 < 25) (hf : fX4_isName j1 s_at s_kind s_start s_text = some x) (l : Launch) (sz : Nat) : zM l yX4_isName cX4_isName 3 (some .boolean) { frames := 4, cells := 0, slots := 0, locals := 85 } E [.ref q_this, .ref (E.2.2.2.1 j1)] [(q_this, .inr (3, [.ref q_text, .int s_end, .int s_at, .int s_kind, .int s_start, .int s_value, v_told, .int s_faultFound, .int s_faultPlace])), (q_text, .inl (E.2.1 1, 1200, .inl s_text))] sz (some (.int x)) [(q_this, .inr (3, [.ref q_text, .int s_end, .int s_at, .int s_kind, .int s_start, .int s_value, v_told, .int s_faultFound, .int s_faultPlace])), (q_text, .inl (E.2.1 1, 1200, .inl s_text))] := by
  refine zEnter (by decide) (Nat.le_of_ble_eq_true rfl) ?_
  intro C hC hR
  change zC C E cX4_isName "PackedCache$Teller" 3 _ at hC
  have B28 : ∀ (N : Nat), ∀ (b2 : Int32), fX4_isName_28 j1 s_at s_kind s_start s_text  N b2 = some x → J C 0 0 [(q_this, .inr (3, [.ref q_text, .int s_end, .int s_at, .int s_kind, .int s_start, .int s_value, v_told, .int s_faultFound, .int s_faultPlace])), (q_text, .inl (E.2.1 1, 1200, .inl s_text))] [(0, .ref q_this), (1, .ref (E.2.2.2.1 j1)), (2, .int b2)] 28 [] := by
    intro  N
    induction N with
    | zero =>
      intro b2 hf
      rw [fX4_isName_28] at hf
      cases hf
    | succ m ih =>
      intro b2 hf
      rw [fX4_isName_28] at hf
      refine j_iload_n (q := 29) hC dX4_isName_28 rfl rfl 2 rfl ?_
      refine j_aload_n (q := 30) hC dX4_isName_29 rfl rfl 1 rfl ?_
      refine j_callT (q := 33) (j := j1) hC hj1 [] [.int b2] (fun x1 : Int32 => some (.int x1)) (fun x1 => [.int x1, .int b2]) hf (fun x1 hx => wJ_len E hj1  x1 hx) zy_J0_length_8abf5 rfl zw_326 (by unfold zRm; decide) rfl (Nat.le_of_ble_eq_true rfl) dX4_isName_30 rfl rfl (fun _ => rfl) (fun x1 hf => ?_)
      refine j_icmp_ge (tgt := 63) (q := 36) hC dX4_isName_33 (by decide) rfl hf (fun _ hf => ?_) (fun _ hf => ?_)
      · refine j_iconst (q := 64) (v := 1) hC dX4_isName_63 rfl (by decide) ?_
        have hx := Option.some.inj hf
        exact j_zret hC hR rfl dX4_isName_64 (by rw [← hx]) rfl
      · refine j_aload_n (q := 37) hC dX4_isName_36 rfl rfl 0 rfl ?_
        refine j_get (q := 40) hC zcl_X4 0 0 zw_129 ⟨rfl, rfl, by decide⟩ rfl rfl dX4_isName_37 rfl ?_
        refine j_aload_n (q := 41) hC dX4_isName_40 rfl rfl 0 rfl ?_
        refine j_get (q := 44) hC zcl_X4 0 4 zw_133 ⟨rfl, rfl, by decide⟩ rfl rfl dX4_isName_41 rfl ?_
        refine j_iload_n (q := 45) hC dX4_isName_44 rfl rfl 2 rfl ?_
        refine j_iadd (q := 46) hC dX4_isName_45 rfl hf (fun x2 hf => ?_)
        refine j_bald (q := 47) hC 1 rfl dX4_isName_46 rfl hf (fun x3 hf => ?_)
        refine j_aload_n (q := 48) hC dX4_isName_47 rfl rfl 1 rfl ?_
        refine j_iload_n (q := 49) hC dX4_isName_48 rfl rfl 2 rfl ?_
        refine j_callT (q := 52) (j := j1) hC hj1 [.int b2] [.int x3] (fun x4 : Int32 => some (.int x4)) (fun x4 => [.int x4, .int x3]) hf (fun x4 hx => wJ_charAt E hj1 b2 x4 hx) zy_J0_charAt_5068e rfl zw_336 (by unfold zRm; decide) rfl (Nat.le_of_ble_eq_true rfl) dX4_isName_49 rfl rfl (fun _ => rfl) (fun x4 hf => ?_)
        refine j_icmp_eq (tgt := 57) (q := 55) hC dX4_isName_52 (by decide) rfl hf (fun _ hf => ?_) (fun _ hf => ?_)
        · refine j_iinc (q := 60) (v := 1) hC (fun x5 => [(2, .int x5), (0, .ref q_this), (1, .ref (E.2.2.2.1 j1))]) dX4_isName_57 rfl 2 rfl (by decide) (by decide) (fun _ => rfl) hf (fun x5 hf => ?_)
          refine j_goto (tgt := 28) hC dX4_isName_60 (by decide) ?_
          refine j_sub (lv' := [(0, .ref q_this), (1, .ref (E.2.2.2.1 j1)), (2, .int x5)]) [1, 2, 0] rfl ?_
          exact ih x5 hf
        · refine j_iconst (q := 56) (v := 0) hC dX4_isName_55 rfl (by decide) ?_
          have hx := Option.some.inj hf
          exact j_zret hC hR rfl dX4_isName_56 (by rw [← hx]) rfl
  unfold fX4_isName at hf
  refine j_sub (lv' := [(0, .ref q_this), (1, .ref (E.2.2.2.1 j1))]) [0, 1] rfl ?_
  refine j_aload_n (q := 1) hC dX4_isName_0 rfl rfl 0 rfl ?_
  refine j_get (q := 4) hC zcl_X4 0 3 zw_132 ⟨rfl, rfl, by decide⟩ rfl rfl dX4_isName_1 rfl ?_
  refine j_iconst (q := 5) (v := 1) hC dX4_isName_4 rfl (by decide) ?_
  refine j_icmp_ne (tgt := 24) (q := 8) hC dX4_isName_5 (by decide) rfl hf (fun _ hf => ?_) (fun _ hf => ?_)
  · refine j_iconst (q := 25) (v := 0) hC dX4_isName_24 rfl (by decide) ?_
    have hx := Option.some.inj hf
    exact j_zret hC hR rfl dX4_isName_25 (by rw [← hx]) rfl
  · refine j_aload_n (q := 9) hC dX4_isName_8 rfl rfl 0 rfl ?_
    refine j_get (q := 12) hC zcl_X4 0 2 zw_131 ⟨rfl, rfl, by decide⟩ rfl rfl dX4_isName_9 rfl ?_
    refine j_aload_n (q := 13) hC dX4_isName_12 rfl rfl 0 rfl ?_
    refine j_get (q := 16) hC zcl_X4 0 4 zw_133 ⟨rfl, rfl, by decide⟩ rfl rfl dX4_isName_13 rfl ?_
    refine j_isub (q := 17) hC dX4_isName_16 rfl hf (fun x1 hf => ?_)
    refine j_aload_n (q := 18) hC dX4_isName_17 rfl rfl 1 rfl ?_
    refine j_callT (q := 21) (j := j1) hC hj1 [] [.int x1] (fun x2 : Int32 => some (.int x2)) (fun x2 => [.int x2, .int x1]) hf (fun x2 hx => wJ_len E hj1  x2 hx) zy_J0_length_8abf5 rfl zw_326 (by unfold zRm; decide) rfl (Nat.le_of_ble_eq_true rfl) dX4_isName_18 rfl rfl (fun _ => rfl) (fun x2 hf => ?_)
    refine j_icmp_eq (tgt := 26) (q := 24) hC dX4_isName_21 (by decide) rfl hf (fun _ hf => ?_) (fun _ hf => ?_)
    · refine j_iconst (q := 27) (v := 0) hC dX4_isName_26 rfl (by decide) ?_
      refine j_istore_n (q := 28) (lv' := [(2, .int 0), (0, .ref q_this), (1, .ref (E.2.2.2.1 j1))]) hC dX4_isName_27 rfl rfl (by decide) rfl ?_
      refine j_sub (lv' := [(0, .ref q_this), (1, .ref (E.2.2.2.1 j1)), (2, .int 0)]) [1, 2, 0] rfl ?_
      exact B28  zF 0 hf
    · refine j_iconst (q := 25) (v := 0) hC dX4_isName_24 rfl (by decide) ?_
      have hx := Option.some.inj hf
      exact j_zret hC hR rfl dX4_isName_25 (by rw [← hx]) rfl
noncomputable def fX4_hasRoom (s_start : Int32) (s_faultFound : Int32) (s_faultPlace : Int32) (s_told_sets : Int32) (a1 : Int32) (a2 : Int32) : Option (Int32 × Int32 × Int32) :=
  if a1 < a2 then (if 0 < s_told_sets then (some (1, s_faultFound, s_faultPlace))
    else ((fX4_fail s_start s_faultFound s_faultPlace 6).bind fun x1 =>
    if x1.1 = 0 then (some (0, x1.2.1, x1.2.2))
    else (some (1, x1.2.1, x1.2.2))))
    else ((fX4_fail s_start s_faultFound s_faultPlace 5).bind fun x2 =>
    zbl x2.1 (some (x2.1, x2.2.1, x2.2.2)))
set_option maxHeartbeats 4000000 in
set_option maxRecDepth 100000 in
theorem wX4_hasRoom (E : zE) (q_this : Nat) (q_told : Nat) (s_end : Int32) (s_at : Int32) (s_kind : Int32) (s_start : Int32) (s_value : Int32) (s_faultFound : Int32) (s_faultPlace : Int32) (s_told_sets : Int32) (s_told_ways : Int32) (s_told_weighed : Int32) (s_told_linesTold : Int32) (s_told_steps : Int32) (s_told_unsure : Int32) (s_told_seen : Int32) (s_told_fitsKnown : Int32) (s_told_fitBits : Int32) (v_text : Value) (v_told_toldAlready : Value) (v_told_memory : Value) (v_told_stepSpot : Value) (v_told_stepWord : Value) (v_told_unsureSpot : Value) (v_told_unsureWord : Value) (v_told_seenStep : Value) (v_told_seenHit : Value) (a1 : Int32) (a2 : Int32) (x : Int32 × Int32 × Int32) (hf : fX4_hasRoom s_start s_faultFound s_faultPlace s_told_sets a1 a2 = some x) (l : Launch) (sz : Nat) : zM l yX4_hasRoom cX4_hasRoom 3 (some .boolean) { frames := 1, cells := 0, slots := 0, locals := 21 } E [.ref q_this, .int a1, .int a2] [(q_this, .inr (3, [v_text, .int s_end, .int s_at, .int s_kind, .int s_start, .int s_value, .ref q_told, .int s_faultFound, .int s_faultPlace])), (q_told, .inr (1, [.int s_told_sets, .int s_told_ways, .int s_told_weighed, .int s_told_linesTold, v_told_toldAlready, v_told_memory, .int s_told_steps, v_told_stepSpot, v_told_stepWord, .int s_told_unsure, v_told_unsureSpot, v_told_unsureWord, .int s_told_seen, v_told_seenStep, v_told_seenHit, .int s_told_fitsKnown, .int s_told_fitBits]))] sz (some (.int x.1)) [(q_this, .inr (3, [v_text, .int s_end, .int s_at, .int s_kind, .int s_start, .int s_value, .ref q_told, .int x.2.1, .int x.2.2])), (q_told, .inr (1, [.int s_told_sets, .int s_told_ways, .int s_told_weighed, .int s_told_linesTold, v_told_toldAlready, v_told_memory, .int s_told_steps, v_told_stepSpot, v_told_stepWord, .int s_told_unsure, v_told_unsureSpot, v_told_unsureWord, .int s_told_seen, v_told_seenStep, v_told_seenHit, .int s_told_fitsKnown, .int s_told_fitBits]))] := by
  refine zEnter (by decide) (Nat.le_of_ble_eq_true rfl) ?_
  intro C hC hR
  change zC C E cX4_hasRoom "PackedCache$Teller" 3 _ at hC
  unfold fX4_hasRoom at hf
  refine j_sub (lv' := [(0, .ref q_this), (1, .int a1), (2, .int a2)]) [0, 1, 2] rfl ?_
  refine j_iload_n (q := 1) hC dX4_hasRoom_0 rfl rfl 1 rfl ?_
  refine j_iload_n (q := 2) hC dX4_hasRoom_1 rfl rfl 2 rfl ?_
  refine j_icmp_lt (tgt := 11) (q := 5) hC dX4_hasRoom_2 (by decide) rfl hf (fun _ hf => ?_) (fun _ hf => ?_)
  · refine j_aload_n (q := 12) hC dX4_hasRoom_11 rfl rfl 0 rfl ?_
    refine j_get (q := 15) hC zcl_X4 0 6 zw_135 ⟨rfl, rfl, by decide⟩ rfl rfl dX4_hasRoom_12 rfl ?_
    refine j_getN (q := 18) hC zcl_X1 1 0 zn_37 ⟨rfl, rfl, by decide⟩ rfl rfl dX4_hasRoom_15 rfl ?_
    refine j_if_gt (tgt := 30) (q := 21) hC dX4_hasRoom_18 (by decide) rfl hf (fun _ hf => ?_) (fun _ hf => ?_)
    · refine j_iconst (q := 31) (v := 1) hC dX4_hasRoom_30 rfl (by decide) ?_
      refine j_goto (tgt := 35) hC dX4_hasRoom_31 (by decide) ?_
      have hx := Option.some.inj hf
      exact j_zret hC hR rfl dX4_hasRoom_35 (by rw [← hx]) (by rw [← hx])
    · refine j_aload_n (q := 22) hC dX4_hasRoom_21 rfl rfl 0 rfl ?_
      refine j_bipush (q := 24) (v := 6) hC dX4_hasRoom_22 rfl (by decide) ?_
      refine j_callV (q := 27) hC [.int 6] [] (fun x1 : Int32 × Int32 × Int32 => some (.int x1.1)) (fun x1 => [(q_this, .inr (3, [v_text, .int s_end, .int s_at, .int s_kind, .int s_start, .int s_value, .ref q_told, .int x1.2.1, .int x1.2.2]))]) (fun x1 => [(q_this, .inr (3, [v_text, .int s_end, .int s_at, .int s_kind, .int s_start, .int s_value, .ref q_told, .int x1.2.1, .int x1.2.2])), (q_told, .inr (1, [.int s_told_sets, .int s_told_ways, .int s_told_weighed, .int s_told_linesTold, v_told_toldAlready, v_told_memory, .int s_told_steps, v_told_stepSpot, v_told_stepWord, .int s_told_unsure, v_told_unsureSpot, v_told_unsureWord, .int s_told_seen, v_told_seenStep, v_told_seenHit, .int s_told_fitsKnown, .int s_told_fitBits]))]) (fun x1 => [.int x1.1]) [0] [1] hf (fun x1 hx => wX4_fail E q_this s_end s_at s_kind s_start s_value s_faultFound s_faultPlace (v_text) (.ref q_told) 6 x1  hx) zy_X4_fail zw_374 (by unfold zRm; decide) rfl rfl (fun _ => rfl) (N := 2) (by decide) (fun _ => ⟨rfl, rfl, rfl⟩) rfl rfl rfl (Nat.le_of_ble_eq_true rfl) dX4_hasRoom_24 rfl rfl (fun _ => rfl) (fun x1 hf => ?_)
      refine j_if_eq (tgt := 34) (q := 30) hC dX4_hasRoom_27 (by decide) rfl hf (fun _ hf => ?_) (fun _ hf => ?_)
      · refine j_iconst (q := 35) (v := 0) hC dX4_hasRoom_34 rfl (by decide) ?_
        have hx := Option.some.inj hf
        exact j_zret hC hR rfl dX4_hasRoom_35 (by rw [← hx]) (by rw [← hx])
      · refine j_iconst (q := 31) (v := 1) hC dX4_hasRoom_30 rfl (by decide) ?_
        refine j_goto (tgt := 35) hC dX4_hasRoom_31 (by decide) ?_
        have hx := Option.some.inj hf
        exact j_zret hC hR rfl dX4_hasRoom_35 (by rw [← hx]) (by rw [← hx])
  · refine j_aload_n (q := 6) hC dX4_hasRoom_5 rfl rfl 0 rfl ?_
    refine j_iconst (q := 7) (v := 5) hC dX4_hasRoom_6 rfl (by decide) ?_
    refine j_callV (q := 10) hC [.int 5] [] (fun x2 : Int32 × Int32 × Int32 => some (.int x2.1)) (fun x2 => [(q_this, .inr (3, [v_text, .int s_end, .int s_at, .int s_kind, .int s_start, .int s_value, .ref q_told, .int x2.2.1, .int x2.2.2]))]) (fun x2 => [(q_this, .inr (3, [v_text, .int s_end, .int s_at, .int s_kind, .int s_start, .int s_value, .ref q_told, .int x2.2.1, .int x2.2.2])), (q_told, .inr (1, [.int s_told_sets, .int s_told_ways, .int s_told_weighed, .int s_told_linesTold, v_told_toldAlready, v_told_memory, .int s_told_steps, v_told_stepSpot, v_told_stepWord, .int s_told_unsure, v_told_unsureSpot, v_told_unsureWord, .int s_told_seen, v_told_seenStep, v_told_seenHit, .int s_told_fitsKnown, .int s_told_fitBits]))]) (fun x2 => [.int x2.1]) [0] [1] hf (fun x2 hx => wX4_fail E q_this s_end s_at s_kind s_start s_value s_faultFound s_faultPlace (v_text) (.ref q_told) 5 x2  hx) zy_X4_fail zw_374 (by unfold zRm; decide) rfl rfl (fun _ => rfl) (N := 2) (by decide) (fun _ => ⟨rfl, rfl, rfl⟩) rfl rfl rfl (Nat.le_of_ble_eq_true rfl) dX4_hasRoom_7 rfl rfl (fun _ => rfl) (fun x2 hf => ?_)
    obtain ⟨hz, hf⟩ := zbl_s hf
    have hx := Option.some.inj hf
    exact j_zret hC hR (zbl_n hz) dX4_hasRoom_10 (by rw [← hx]) (by rw [← hx])
noncomputable def fX4_takeWhole (s_end : Int32) (s_at : Int32) (s_kind : Int32) (s_start : Int32) (s_value : Int32) (s_faultFound : Int32) (s_faultPlace : Int32) (s_text : (Nat → Int32)) : Option (Int32 × Int32 × Int32 × Int32 × Int32 × Int32 × Int32) :=
  (fX4_takeToken s_end s_at s_kind s_start s_value s_text).bind fun x1 =>
    if x1.2.1 = 2 then (some (1, x1.1, x1.2.1, x1.2.2.1, x1.2.2.2, s_faultFound, s_faultPlace))
    else ((fX4_fail x1.2.2.1 s_faultFound s_faultPlace 1).bind fun x2 =>
    if x2.1 = 0 then (some (0, x1.1, x1.2.1, x1.2.2.1, x1.2.2.2, x2.2.1, x2.2.2))
    else (some (1, x1.1, x1.2.1, x1.2.2.1, x1.2.2.2, x2.2.1, x2.2.2)))
set_option maxHeartbeats 4000000 in
set_option maxRecDepth 100000 in
theorem wX4_takeWhole (E : zE) (q_this : Nat) (q_text : Nat) (s_end : Int32) (s_at : Int32) (s_kind : Int32) (s_start : Int32) (s_value : Int32) (s_faultFound : Int32) (s_faultPlace : Int32) (s_text : (Nat → Int32)) (v_told : Value) (x : Int32 × Int32 × Int32 × Int32 × Int32 × Int32 × Int32) (hf : fX4_takeWhole s_end s_at s_kind s_start s_value s_faultFound s_faultPlace s_text = some x) (l : Launch) (sz : Nat) : zM l yX4_takeWhole cX4_takeWhole 1 (some .boolean) { frames := 2, cells := 0, slots := 0, locals := 42 } E [.ref q_this] [(q_this, .inr (3, [.ref q_text, .int s_end, .int s_at, .int s_kind, .int s_start, .int s_value, v_told, .int s_faultFound, .int s_faultPlace])), (q_text, .inl (E.2.1 1, 1200, .inl s_text))] sz (some (.int x.1)) [(q_this, .inr (3, [.ref q_text, .int s_end, .int x.2.1, .int x.2.2.1, .int x.2.2.2.1, .int x.2.2.2.2.1, v_told, .int x.2.2.2.2.2.1, .int x.2.2.2.2.2.2])), (q_text, .inl (E.2.1 1, 1200, .inl s_text))] := by
  refine zEnter (by decide) (Nat.le_of_ble_eq_true rfl) ?_
  intro C hC hR
  change zC C E cX4_takeWhole "PackedCache$Teller" 1 _ at hC
  unfold fX4_takeWhole at hf
  refine j_sub (lv' := [(0, .ref q_this)]) [0] rfl ?_
  refine j_aload_n (q := 1) hC dX4_takeWhole_0 rfl rfl 0 rfl ?_
  refine j_callV (q := 4) hC [] [] (fun x1 : Int32 × Int32 × Int32 × Int32 => none) (fun x1 => [(q_this, .inr (3, [.ref q_text, .int s_end, .int x1.1, .int x1.2.1, .int x1.2.2.1, .int x1.2.2.2, v_told, .int s_faultFound, .int s_faultPlace])), (q_text, .inl (E.2.1 1, 1200, .inl s_text))]) (fun x1 => [(q_this, .inr (3, [.ref q_text, .int s_end, .int x1.1, .int x1.2.1, .int x1.2.2.1, .int x1.2.2.2, v_told, .int s_faultFound, .int s_faultPlace])), (q_text, .inl (E.2.1 1, 1200, .inl s_text))]) (fun x1 => []) [0, 1] [] hf (fun x1 hx => wX4_takeToken E q_this q_text s_end s_at s_kind s_start s_value s_faultFound s_faultPlace s_text (v_told) x1  hx) zy_X4_takeToken zw_309 (by unfold zRm; decide) rfl rfl (fun _ => rfl) (N := 2) (by decide) (fun _ => ⟨rfl, rfl, rfl⟩) rfl rfl rfl (Nat.le_of_ble_eq_true rfl) dX4_takeWhole_1 rfl rfl (fun _ => rfl) (fun x1 hf => ?_)
  refine j_aload_n (q := 5) hC dX4_takeWhole_4 rfl rfl 0 rfl ?_
  refine j_get (q := 8) hC zcl_X4 0 3 zw_132 ⟨rfl, rfl, by decide⟩ rfl rfl dX4_takeWhole_5 rfl ?_
  refine j_iconst (q := 9) (v := 2) hC dX4_takeWhole_8 rfl (by decide) ?_
  refine j_icmp_eq (tgt := 20) (q := 12) hC dX4_takeWhole_9 (by decide) rfl hf (fun _ hf => ?_) (fun _ hf => ?_)
  · refine j_iconst (q := 21) (v := 1) hC dX4_takeWhole_20 rfl (by decide) ?_
    refine j_goto (tgt := 25) hC dX4_takeWhole_21 (by decide) ?_
    have hx := Option.some.inj hf
    exact j_zret hC hR rfl dX4_takeWhole_25 (by rw [← hx]) (by rw [← hx])
  · refine j_aload_n (q := 13) hC dX4_takeWhole_12 rfl rfl 0 rfl ?_
    refine j_iconst (q := 14) (v := 1) hC dX4_takeWhole_13 rfl (by decide) ?_
    refine j_callV (q := 17) hC [.int 1] [] (fun x2 : Int32 × Int32 × Int32 => some (.int x2.1)) (fun x2 => [(q_this, .inr (3, [.ref q_text, .int s_end, .int x1.1, .int x1.2.1, .int x1.2.2.1, .int x1.2.2.2, v_told, .int x2.2.1, .int x2.2.2]))]) (fun x2 => [(q_this, .inr (3, [.ref q_text, .int s_end, .int x1.1, .int x1.2.1, .int x1.2.2.1, .int x1.2.2.2, v_told, .int x2.2.1, .int x2.2.2])), (q_text, .inl (E.2.1 1, 1200, .inl s_text))]) (fun x2 => [.int x2.1]) [0] [1] hf (fun x2 hx => wX4_fail E q_this s_end x1.1 x1.2.1 x1.2.2.1 x1.2.2.2 s_faultFound s_faultPlace (.ref q_text) (v_told) 1 x2  hx) zy_X4_fail zw_374 (by unfold zRm; decide) rfl rfl (fun _ => rfl) (N := 2) (by decide) (fun _ => ⟨rfl, rfl, rfl⟩) rfl rfl rfl (Nat.le_of_ble_eq_true rfl) dX4_takeWhole_14 rfl rfl (fun _ => rfl) (fun x2 hf => ?_)
    refine j_if_eq (tgt := 24) (q := 20) hC dX4_takeWhole_17 (by decide) rfl hf (fun _ hf => ?_) (fun _ hf => ?_)
    · refine j_iconst (q := 25) (v := 0) hC dX4_takeWhole_24 rfl (by decide) ?_
      have hx := Option.some.inj hf
      exact j_zret hC hR rfl dX4_takeWhole_25 (by rw [← hx]) (by rw [← hx])
    · refine j_iconst (q := 21) (v := 1) hC dX4_takeWhole_20 rfl (by decide) ?_
      refine j_goto (tgt := 25) hC dX4_takeWhole_21 (by decide) ?_
      have hx := Option.some.inj hf
      exact j_zret hC hR rfl dX4_takeWhole_25 (by rw [← hx]) (by rw [← hx])
noncomputable def fX4_tellSeen_120 (s_end : Int32) (s_text : (Nat → Int32)) (s_told_steps : Int32)  (t0 : Int32) (t1 : Int32) (s_at : Int32) (s_kind : Int32) (s_start : Int32) (s_value : Int32) (s_faultFound : Int32) (s_faultPlace : Int32) (s_told_seen : Int32) (s_told_seenHit : (Nat → Int32)) (s_told_seenStep : (Nat → Int32)) : Option (Int32 × Int32 × Int32 × Int32 × Int32 × Int32 × Int32 × Int32 × (Nat → Int32) × (Nat → Int32)) :=
  zast s_told_seenHit 6 t1 t0 fun x1 =>
    zlet (s_told_seen + 1 : Int32) fun x2 =>
    some (1, s_at, s_kind, s_start, s_value, s_faultFound, s_faultPlace, x2, x1, s_told_seenStep)
noncomputable def fX4_tellSeen_76 (s_end : Int32) (s_text : (Nat → Int32)) (s_told_steps : Int32)  (b1 : Int32) (s_at : Int32) (s_kind : Int32) (s_start : Int32) (s_value : Int32) (s_faultFound : Int32) (s_faultPlace : Int32) (s_told_seen : Int32) (s_told_seenHit : (Nat → Int32)) (s_told_seenStep : (Nat → Int32)) : Option (Int32 × Int32 × Int32 × Int32 × Int32 × Int32 × Int32 × Int32 × (Nat → Int32) × (Nat → Int32)) :=
  zast s_told_seenStep 6 s_told_seen b1 fun x1 =>
    (fX4_isName 10 s_at s_kind s_start s_text).bind fun x2 =>
    if x2 = 0 then (fX4_tellSeen_120 s_end s_text s_told_steps  0 s_told_seen s_at s_kind s_start s_value s_faultFound s_faultPlace s_told_seen s_told_seenHit x1)
    else (fX4_tellSeen_120 s_end s_text s_told_steps  1 s_told_seen s_at s_kind s_start s_value s_faultFound s_faultPlace s_told_seen s_told_seenHit x1)
noncomputable def fX4_tellSeen (s_end : Int32) (s_at : Int32) (s_kind : Int32) (s_start : Int32) (s_value : Int32) (s_faultFound : Int32) (s_faultPlace : Int32) (s_text : (Nat → Int32)) (s_told_steps : Int32) (s_told_seen : Int32) (s_told_seenHit : (Nat → Int32)) (s_told_seenStep : (Nat → Int32)) : Option (Int32 × Int32 × Int32 × Int32 × Int32 × Int32 × Int32 × Int32 × (Nat → Int32) × (Nat → Int32)) :=
  (fX4_takeWhole s_end s_at s_kind s_start s_value s_faultFound s_faultPlace s_text).bind fun x1 =>
    if x1.1 = 0 then (some (0, x1.2.1, x1.2.2.1, x1.2.2.2.1, x1.2.2.2.2.1, x1.2.2.2.2.2.1, x1.2.2.2.2.2.2, s_told_seen, s_told_seenHit, s_told_seenStep))
    else (if x1.2.2.2.2.1 < s_told_steps then ((fX1_isSeen s_told_seen s_told_seenStep x1.2.2.2.2.1).bind fun x2 =>
    if x2 = 0 then ((fX4_takeToken s_end x1.2.1 x1.2.2.1 x1.2.2.2.1 x1.2.2.2.2.1 s_text).bind fun x3 =>
    (fX4_isName 10 x3.1 x3.2.1 x3.2.2.1 s_text).bind fun x4 =>
    if x4 = 0 then ((fX4_isName 11 x3.1 x3.2.1 x3.2.2.1 s_text).bind fun x5 =>
    if x5 = 0 then ((fX4_fail x3.2.2.1 x1.2.2.2.2.2.1 x1.2.2.2.2.2.2 1).bind fun x6 =>
    zbl x6.1 (some (x6.1, x3.1, x3.2.1, x3.2.2.1, x3.2.2.2, x6.2.1, x6.2.2, s_told_seen, s_told_seenHit, s_told_seenStep)))
    else (fX4_tellSeen_76 s_end s_text s_told_steps  x1.2.2.2.2.1 x3.1 x3.2.1 x3.2.2.1 x3.2.2.2 x1.2.2.2.2.2.1 x1.2.2.2.2.2.2 s_told_seen s_told_seenHit s_told_seenStep))
    else (fX4_tellSeen_76 s_end s_text s_told_steps  x1.2.2.2.2.1 x3.1 x3.2.1 x3.2.2.1 x3.2.2.2 x1.2.2.2.2.2.1 x1.2.2.2.2.2.2 s_told_seen s_told_seenHit s_told_seenStep))
    else ((fX4_fail x1.2.2.2.1 x1.2.2.2.2.2.1 x1.2.2.2.2.2.2 3).bind fun x7 =>
    zbl x7.1 (some (x7.1, x1.2.1, x1.2.2.1, x1.2.2.2.1, x1.2.2.2.2.1, x7.2.1, x7.2.2, s_told_seen, s_told_seenHit, s_told_seenStep))))
    else ((fX4_fail x1.2.2.2.1 x1.2.2.2.2.2.1 x1.2.2.2.2.2.2 2).bind fun x8 =>
    zbl x8.1 (some (x8.1, x1.2.1, x1.2.2.1, x1.2.2.2.1, x1.2.2.2.2.1, x8.2.1, x8.2.2, s_told_seen, s_told_seenHit, s_told_seenStep))))
set_option maxHeartbeats 4000000 in
set_option maxRecDepth 100000 in
theorem wX4_tellSeen (E : zE) (q_this : Nat) (q_text : Nat) (q_told : Nat) (q_told_seenHit : Nat) (q_told_seenStep : Nat) (s_end : Int32) (s_at : Int32) (s_kind : Int32) (s_start : Int32) (s_value : Int32) (s_faultFound : Int32) (s_faultPlace : Int32) (s_text : (Nat → Int32)) (s_told_sets : Int32) (s_told_ways : Int32) (s_told_weighed : Int32) (s_told_linesTold : Int32) (s_told_steps : Int32) (s_told_unsure : Int32) (s_told_seen : Int32) (s_told_fitsKnown : Int32) (s_told_fitBits : Int32) (s_told_seenHit : (Nat → Int32)) (s_told_seenStep : (Nat → Int32)) (v_told_toldAlready : Value) (v_told_memory : Value) (v_told_stepSpot : Value) (v_told_stepWord : Value) (v_told_unsureSpot : Value) (v_told_unsureWord : Value) (x : Int32 × Int32 × Int32 × Int32 × Int32 × Int32 × Int32 × Int32 × (Nat → Int32) × (Nat → Int32)) (hf : fX4_tellSeen s_end s_at s_kind s_start s_value s_faultFound s_faultPlace s_text s_told_steps s_told_seen s_told_seenHit s_told_seenStep = some x) (l : Launch) (sz : Nat) : zM l yX4_tellSeen cX4_tellSeen 2 (some .boolean) { frames := 5, cells := 0, slots := 0, locals := 107 } E [.ref q_this] [(q_this, .inr (3, [.ref q_text, .int s_end, .int s_at, .int s_kind, .int s_start, .int s_value, .ref q_told, .int s_faultFound, .int s_faultPlace])), (q_text, .inl (E.2.1 1, 1200, .inl s_text)), (q_told, .inr (1, [.int s_told_sets, .int s_told_ways, .int s_told_weighed, .int s_told_linesTold, v_told_toldAlready, v_told_memory, .int s_told_steps, v_told_stepSpot, v_told_stepWord, .int s_told_unsure, v_told_unsureSpot, v_told_unsureWord, .int s_told_seen, .ref q_told_seenStep, .ref q_told_seenHit, .int s_told_fitsKnown, .int s_told_fitBits])), (q_told_seenHit, .inl (E.2.1 0, 6, .inl s_told_seenHit)), (q_told_seenStep, .inl (E.2.1 0, 6, .inl s_told_seenStep))] sz (some (.int x.1)) [(q_this, .inr (3, [.ref q_text, .int s_end, .int x.2.1, .int x.2.2.1, .int x.2.2.2.1, .int x.2.2.2.2.1, .ref q_told, .int x.2.2.2.2.2.1, .int x.2.2.2.2.2.2.1])), (q_text, .inl (E.2.1 1, 1200, .inl s_text)), (q_told, .inr (1, [.int s_told_sets, .int s_told_ways, .int s_told_weighed, .int s_told_linesTold, v_told_toldAlready, v_told_memory, .int s_told_steps, v_told_stepSpot, v_told_stepWord, .int s_told_unsure, v_told_unsureSpot, v_told_unsureWord, .int x.2.2.2.2.2.2.2.1, .ref q_told_seenStep, .ref q_told_seenHit, .int s_told_fitsKnown, .int s_told_fitBits])), (q_told_seenHit, .inl (E.2.1 0, 6, .inl x.2.2.2.2.2.2.2.2.1)), (q_told_seenStep, .inl (E.2.1 0, 6, .inl x.2.2.2.2.2.2.2.2.2))] := by
  refine zEnter (by decide) (Nat.le_of_ble_eq_true rfl) ?_
  intro C hC hR
  change zC C E cX4_tellSeen "PackedCache$Teller" 2 _ at hC
  have B120 : ∀ (t0 : Int32) (t1 : Int32) (s_at : Int32) (s_kind : Int32) (s_start : Int32) (s_value : Int32) (s_faultFound : Int32) (s_faultPlace : Int32) (s_told_seen : Int32) (s_told_seenHit : (Nat → Int32)) (s_told_seenStep : (Nat → Int32)), fX4_tellSeen_120 s_end s_text s_told_steps  t0 t1 s_at s_kind s_start s_value s_faultFound s_faultPlace s_told_seen s_told_seenHit s_told_seenStep = some x → J C 0 0 [(q_this, .inr (3, [.ref q_text, .int s_end, .int s_at, .int s_kind, .int s_start, .int s_value, .ref q_told, .int s_faultFound, .int s_faultPlace])), (q_text, .inl (E.2.1 1, 1200, .inl s_text)), (q_told, .inr (1, [.int s_told_sets, .int s_told_ways, .int s_told_weighed, .int s_told_linesTold, v_told_toldAlready, v_told_memory, .int s_told_steps, v_told_stepSpot, v_told_stepWord, .int s_told_unsure, v_told_unsureSpot, v_told_unsureWord, .int s_told_seen, .ref q_told_seenStep, .ref q_told_seenHit, .int s_told_fitsKnown, .int s_told_fitBits])), (q_told_seenHit, .inl (E.2.1 0, 6, .inl s_told_seenHit)), (q_told_seenStep, .inl (E.2.1 0, 6, .inl s_told_seenStep))] [(0, .ref q_this)] 120 [.int t0, .int t1, .ref q_told_seenHit] := by
    intro  t0 t1 s_at s_kind s_start s_value s_faultFound s_faultPlace s_told_seen s_told_seenHit s_told_seenStep hf
    unfold fX4_tellSeen_120 at hf
    refine j_iast (q := 121) hC (fun x1 => [(q_this, .inr (3, [.ref q_text, .int s_end, .int s_at, .int s_kind, .int s_start, .int s_value, .ref q_told, .int s_faultFound, .int s_faultPlace])), (q_text, .inl (E.2.1 1, 1200, .inl s_text)), (q_told, .inr (1, [.int s_told_sets, .int s_told_ways, .int s_told_weighed, .int s_told_linesTold, v_told_toldAlready, v_told_memory, .int s_told_steps, v_told_stepSpot, v_told_stepWord, .int s_told_unsure, v_told_unsureSpot, v_told_unsureWord, .int s_told_seen, .ref q_told_seenStep, .ref q_told_seenHit, .int s_told_fitsKnown, .int s_told_fitBits])), (q_told_seenHit, .inl (E.2.1 0, 6, .inl x1)), (q_told_seenStep, .inl (E.2.1 0, 6, .inl s_told_seenStep))]) 3 rfl (fun _ => rfl) dX4_tellSeen_120 rfl hf (fun x1 hf => ?_)
    refine j_aload_n (q := 122) hC dX4_tellSeen_121 rfl rfl 0 rfl ?_
    refine j_get (q := 125) hC zcl_X4 0 6 zw_135 ⟨rfl, rfl, by decide⟩ rfl rfl dX4_tellSeen_122 rfl ?_
    refine j_dup (q := 126) hC dX4_tellSeen_125 rfl rfl ?_
    refine j_getN (q := 129) hC zcl_X1 2 12 zn_75 ⟨rfl, rfl, by decide⟩ rfl rfl dX4_tellSeen_126 rfl ?_
    refine j_iconst (q := 130) (v := 1) hC dX4_tellSeen_129 rfl (by decide) ?_
    refine j_iadd (q := 131) hC dX4_tellSeen_130 rfl hf (fun x2 hf => ?_)
    refine j_putN (q := 134) hC zcl_X1 2 12 (ws' := [(q_this, .inr (3, [.ref q_text, .int s_end, .int s_at, .int s_kind, .int s_start, .int s_value, .ref q_told, .int s_faultFound, .int s_faultPlace])), (q_text, .inl (E.2.1 1, 1200, .inl s_text)), (q_told, .inr (1, [.int s_told_sets, .int s_told_ways, .int s_told_weighed, .int s_told_linesTold, v_told_toldAlready, v_told_memory, .int s_told_steps, v_told_stepSpot, v_told_stepWord, .int s_told_unsure, v_told_unsureSpot, v_told_unsureWord, .int x2, .ref q_told_seenStep, .ref q_told_seenHit, .int s_told_fitsKnown, .int s_told_fitBits])), (q_told_seenHit, .inl (E.2.1 0, 6, .inl x1)), (q_told_seenStep, .inl (E.2.1 0, 6, .inl s_told_seenStep))]) zn_75 ⟨rfl, rfl, by decide, rfl⟩ rfl rfl rfl (Nat.le_of_ble_eq_true rfl) rfl dX4_tellSeen_131 rfl ?_
    refine j_iconst (q := 135) (v := 1) hC dX4_tellSeen_134 rfl (by decide) ?_
    have hx := Option.some.inj hf
    exact j_zret hC hR rfl dX4_tellSeen_135 (by rw [← hx]) (by rw [← hx])
  have B76 : ∀ (b1 : Int32) (s_at : Int32) (s_kind : Int32) (s_start : Int32) (s_value : Int32) (s_faultFound : Int32) (s_faultPlace : Int32) (s_told_seen : Int32) (s_told_seenHit : (Nat → Int32)) (s_told_seenStep : (Nat → Int32)), fX4_tellSeen_76 s_end s_text s_told_steps  b1 s_at s_kind s_start s_value s_faultFound s_faultPlace s_told_seen s_told_seenHit s_told_seenStep = some x → J C 0 0 [(q_this, .inr (3, [.ref q_text, .int s_end, .int s_at, .int s_kind, .int s_start, .int s_value, .ref q_told, .int s_faultFound, .int s_faultPlace])), (q_text, .inl (E.2.1 1, 1200, .inl s_text)), (q_told, .inr (1, [.int s_told_sets, .int s_told_ways, .int s_told_weighed, .int s_told_linesTold, v_told_toldAlready, v_told_memory, .int s_told_steps, v_told_stepSpot, v_told_stepWord, .int s_told_unsure, v_told_unsureSpot, v_told_unsureWord, .int s_told_seen, .ref q_told_seenStep, .ref q_told_seenHit, .int s_told_fitsKnown, .int s_told_fitBits])), (q_told_seenHit, .inl (E.2.1 0, 6, .inl s_told_seenHit)), (q_told_seenStep, .inl (E.2.1 0, 6, .inl s_told_seenStep))] [(0, .ref q_this), (1, .int b1)] 76 [] := by
    intro  b1 s_at s_kind s_start s_value s_faultFound s_faultPlace s_told_seen s_told_seenHit s_told_seenStep hf
    unfold fX4_tellSeen_76 at hf
    refine j_aload_n (q := 77) hC dX4_tellSeen_76 rfl rfl 0 rfl ?_
    refine j_get (q := 80) hC zcl_X4 0 6 zw_135 ⟨rfl, rfl, by decide⟩ rfl rfl dX4_tellSeen_77 rfl ?_
    refine j_getN (q := 83) hC zcl_X1 2 13 zn_78 ⟨rfl, rfl, by decide⟩ rfl rfl dX4_tellSeen_80 rfl ?_
    refine j_aload_n (q := 84) hC dX4_tellSeen_83 rfl rfl 0 rfl ?_
    refine j_get (q := 87) hC zcl_X4 0 6 zw_135 ⟨rfl, rfl, by decide⟩ rfl rfl dX4_tellSeen_84 rfl ?_
    refine j_getN (q := 90) hC zcl_X1 2 12 zn_75 ⟨rfl, rfl, by decide⟩ rfl rfl dX4_tellSeen_87 rfl ?_
    refine j_iload_n (q := 91) hC dX4_tellSeen_90 rfl rfl 1 rfl ?_
    refine j_iast (q := 92) hC (fun x1 => [(q_this, .inr (3, [.ref q_text, .int s_end, .int s_at, .int s_kind, .int s_start, .int s_value, .ref q_told, .int s_faultFound, .int s_faultPlace])), (q_text, .inl (E.2.1 1, 1200, .inl s_text)), (q_told, .inr (1, [.int s_told_sets, .int s_told_ways, .int s_told_weighed, .int s_told_linesTold, v_told_toldAlready, v_told_memory, .int s_told_steps, v_told_stepSpot, v_told_stepWord, .int s_told_unsure, v_told_unsureSpot, v_told_unsureWord, .int s_told_seen, .ref q_told_seenStep, .ref q_told_seenHit, .int s_told_fitsKnown, .int s_told_fitBits])), (q_told_seenHit, .inl (E.2.1 0, 6, .inl s_told_seenHit)), (q_told_seenStep, .inl (E.2.1 0, 6, .inl x1))]) 4 rfl (fun _ => rfl) dX4_tellSeen_91 rfl hf (fun x1 hf => ?_)
    refine j_aload_n (q := 93) hC dX4_tellSeen_92 rfl rfl 0 rfl ?_
    refine j_get (q := 96) hC zcl_X4 0 6 zw_135 ⟨rfl, rfl, by decide⟩ rfl rfl dX4_tellSeen_93 rfl ?_
    refine j_getN (q := 99) hC zcl_X1 2 14 zn_81 ⟨rfl, rfl, by decide⟩ rfl rfl dX4_tellSeen_96 rfl ?_
    refine j_aload_n (q := 100) hC dX4_tellSeen_99 rfl rfl 0 rfl ?_
    refine j_get (q := 103) hC zcl_X4 0 6 zw_135 ⟨rfl, rfl, by decide⟩ rfl rfl dX4_tellSeen_100 rfl ?_
    refine j_getN (q := 106) hC zcl_X1 2 12 zn_75 ⟨rfl, rfl, by decide⟩ rfl rfl dX4_tellSeen_103 rfl ?_
    refine j_aload_n (q := 107) hC dX4_tellSeen_106 rfl rfl 0 rfl ?_
    refine j_ldcS (q := 109) hC 10 (tx := "hit") (bs := [104, 105, 116]) dX4_tellSeen_107 rfl rfl ?_
    refine j_callV (q := 112) hC [.ref (E.2.2.2.1 10)] [.int s_told_seen, .ref q_told_seenHit] (fun x2 : Int32 => some (.int x2)) (fun x2 => [(q_this, .inr (3, [.ref q_text, .int s_end, .int s_at, .int s_kind, .int s_start, .int s_value, .ref q_told, .int s_faultFound, .int s_faultPlace])), (q_text, .inl (E.2.1 1, 1200, .inl s_text))]) (fun x2 => [(q_this, .inr (3, [.ref q_text, .int s_end, .int s_at, .int s_kind, .int s_start, .int s_value, .ref q_told, .int s_faultFound, .int s_faultPlace])), (q_text, .inl (E.2.1 1, 1200, .inl s_text)), (q_told, .inr (1, [.int s_told_sets, .int s_told_ways, .int s_told_weighed, .int s_told_linesTold, v_told_toldAlready, v_told_memory, .int s_told_steps, v_told_stepSpot, v_told_stepWord, .int s_told_unsure, v_told_unsureSpot, v_told_unsureWord, .int s_told_seen, .ref q_told_seenStep, .ref q_told_seenHit, .int s_told_fitsKnown, .int s_told_fitBits])), (q_told_seenHit, .inl (E.2.1 0, 6, .inl s_told_seenHit)), (q_told_seenStep, .inl (E.2.1 0, 6, .inl x1))]) (fun x2 => [.int x2, .int s_told_seen, .ref q_told_seenHit]) [0, 1] [2, 3, 4] hf (fun x2 hx => wX4_isName E q_this q_text s_end s_at s_kind s_start s_value s_faultFound s_faultPlace s_text (.ref q_told) 10 x2 (by decide) hx) zy_X4_isName zw_322 (by unfold zRm; decide) rfl rfl (fun _ => rfl) (N := 5) (by decide) (fun _ => ⟨rfl, rfl, rfl⟩) rfl rfl rfl (Nat.le_of_ble_eq_true rfl) dX4_tellSeen_109 rfl rfl (fun _ => rfl) (fun x2 hf => ?_)
    refine j_if_eq (tgt := 119) (q := 115) hC dX4_tellSeen_112 (by decide) rfl hf (fun _ hf => ?_) (fun _ hf => ?_)
    · refine j_iconst (q := 120) (v := 0) hC dX4_tellSeen_119 rfl (by decide) ?_
      refine j_sub (lv' := [(0, .ref q_this)]) [0] rfl ?_
      exact B120  0 s_told_seen s_at s_kind s_start s_value s_faultFound s_faultPlace s_told_seen s_told_seenHit x1 hf
    · refine j_iconst (q := 116) (v := 1) hC dX4_tellSeen_115 rfl (by decide) ?_
      refine j_goto (tgt := 120) hC dX4_tellSeen_116 (by decide) ?_
      refine j_sub (lv' := [(0, .ref q_this)]) [0] rfl ?_
      exact B120  1 s_told_seen s_at s_kind s_start s_value s_faultFound s_faultPlace s_told_seen s_told_seenHit x1 hf
  unfold fX4_tellSeen at hf
  refine j_sub (lv' := [(0, .ref q_this)]) [0] rfl ?_
  refine j_aload_n (q := 1) hC dX4_tellSeen_0 rfl rfl 0 rfl ?_
  refine j_callV (q := 4) hC [] [] (fun x1 : Int32 × Int32 × Int32 × Int32 × Int32 × Int32 × Int32 => some (.int x1.1)) (fun x1 => [(q_this, .inr (3, [.ref q_text, .int s_end, .int x1.2.1, .int x1.2.2.1, .int x1.2.2.2.1, .int x1.2.2.2.2.1, .ref q_told, .int x1.2.2.2.2.2.1, .int x1.2.2.2.2.2.2])), (q_text, .inl (E.2.1 1, 1200, .inl s_text))]) (fun x1 => [(q_this, .inr (3, [.ref q_text, .int s_end, .int x1.2.1, .int x1.2.2.1, .int x1.2.2.2.1, .int x1.2.2.2.2.1, .ref q_told, .int x1.2.2.2.2.2.1, .int x1.2.2.2.2.2.2])), (q_text, .inl (E.2.1 1, 1200, .inl s_text)), (q_told, .inr (1, [.int s_told_sets, .int s_told_ways, .int s_told_weighed, .int s_told_linesTold, v_told_toldAlready, v_told_memory, .int s_told_steps, v_told_stepSpot, v_told_stepWord, .int s_told_unsure, v_told_unsureSpot, v_told_unsureWord, .int s_told_seen, .ref q_told_seenStep, .ref q_told_seenHit, .int s_told_fitsKnown, .int s_told_fitBits])), (q_told_seenHit, .inl (E.2.1 0, 6, .inl s_told_seenHit)), (q_told_seenStep, .inl (E.2.1 0, 6, .inl s_told_seenStep))]) (fun x1 => [.int x1.1]) [0, 1] [2, 3, 4] hf (fun x1 hx => wX4_takeWhole E q_this q_text s_end s_at s_kind s_start s_value s_faultFound s_faultPlace s_text (.ref q_told) x1  hx) zy_X4_takeWhole zw_391 (by unfold zRm; decide) rfl rfl (fun _ => rfl) (N := 5) (by decide) (fun _ => ⟨rfl, rfl, rfl⟩) rfl rfl rfl (Nat.le_of_ble_eq_true rfl) dX4_tellSeen_1 rfl rfl (fun _ => rfl) (fun x1 hf => ?_)
  refine j_if_ne (tgt := 9) (q := 7) hC dX4_tellSeen_4 (by decide) rfl hf (fun _ hf => ?_) (fun _ hf => ?_)
  · refine j_aload_n (q := 10) hC dX4_tellSeen_9 rfl rfl 0 rfl ?_
    refine j_get (q := 13) hC zcl_X4 0 5 zw_134 ⟨rfl, rfl, by decide⟩ rfl rfl dX4_tellSeen_10 rfl ?_
    refine j_istore_n (q := 14) (lv' := [(1, .int x1.2.2.2.2.1), (0, .ref q_this)]) hC dX4_tellSeen_13 rfl rfl (by decide) rfl ?_
    refine j_iload_n (q := 15) hC dX4_tellSeen_14 rfl rfl 0 rfl ?_
    refine j_aload_n (q := 16) hC dX4_tellSeen_15 rfl rfl 1 rfl ?_
    refine j_get (q := 19) hC zcl_X4 0 6 zw_135 ⟨rfl, rfl, by decide⟩ rfl rfl dX4_tellSeen_16 rfl ?_
    refine j_getN (q := 22) hC zcl_X1 2 6 zn_57 ⟨rfl, rfl, by decide⟩ rfl rfl dX4_tellSeen_19 rfl ?_
    refine j_icmp_lt (tgt := 31) (q := 25) hC dX4_tellSeen_22 (by decide) rfl hf (fun _ hf => ?_) (fun _ hf => ?_)
    · refine j_aload_n (q := 32) hC dX4_tellSeen_31 rfl rfl 1 rfl ?_
      refine j_get (q := 35) hC zcl_X4 0 6 zw_135 ⟨rfl, rfl, by decide⟩ rfl rfl dX4_tellSeen_32 rfl ?_
      refine j_iload_n (q := 36) hC dX4_tellSeen_35 rfl rfl 0 rfl ?_
      refine j_callV (q := 39) hC [.int x1.2.2.2.2.1] [] (fun x2 : Int32 => some (.int x2)) (fun x2 => [(q_told, .inr (1, [.int s_told_sets, .int s_told_ways, .int s_told_weighed, .int s_told_linesTold, v_told_toldAlready, v_told_memory, .int s_told_steps, v_told_stepSpot, v_told_stepWord, .int s_told_unsure, v_told_unsureSpot, v_told_unsureWord, .int s_told_seen, .ref q_told_seenStep, .ref q_told_seenHit, .int s_told_fitsKnown, .int s_told_fitBits])), (q_told_seenStep, .inl (E.2.1 0, 6, .inl s_told_seenStep))]) (fun x2 => [(q_this, .inr (3, [.ref q_text, .int s_end, .int x1.2.1, .int x1.2.2.1, .int x1.2.2.2.1, .int x1.2.2.2.2.1, .ref q_told, .int x1.2.2.2.2.2.1, .int x1.2.2.2.2.2.2])), (q_text, .inl (E.2.1 1, 1200, .inl s_text)), (q_told, .inr (1, [.int s_told_sets, .int s_told_ways, .int s_told_weighed, .int s_told_linesTold, v_told_toldAlready, v_told_memory, .int s_told_steps, v_told_stepSpot, v_told_stepWord, .int s_told_unsure, v_told_unsureSpot, v_told_unsureWord, .int s_told_seen, .ref q_told_seenStep, .ref q_told_seenHit, .int s_told_fitsKnown, .int s_told_fitBits])), (q_told_seenHit, .inl (E.2.1 0, 6, .inl s_told_seenHit)), (q_told_seenStep, .inl (E.2.1 0, 6, .inl s_told_seenStep))]) (fun x2 => [.int x2]) [2, 4] [0, 1, 3] hf (fun x2 hx => wX1_isSeen E q_told q_told_seenStep s_told_sets s_told_ways s_told_weighed s_told_linesTold s_told_steps s_told_unsure s_told_seen s_told_fitsKnown s_told_fitBits s_told_seenStep (v_told_toldAlready) (v_told_memory) (v_told_stepSpot) (v_told_stepWord) (v_told_unsureSpot) (v_told_unsureWord) (.ref q_told_seenHit) x1.2.2.2.2.1 x2  hx) zy_X1_isSeen zw_428 (by unfold zRm; decide) rfl rfl (fun _ => rfl) (N := 5) (by decide) (fun _ => ⟨rfl, rfl, rfl⟩) rfl rfl rfl (Nat.le_of_ble_eq_true rfl) dX4_tellSeen_36 rfl rfl (fun _ => rfl) (fun x2 hf => ?_)
      refine j_if_eq (tgt := 48) (q := 42) hC dX4_tellSeen_39 (by decide) rfl hf (fun _ hf => ?_) (fun _ hf => ?_)
      · refine j_aload_n (q := 49) hC dX4_tellSeen_48 rfl rfl 1 rfl ?_
        refine j_callV (q := 52) hC [] [] (fun x3 : Int32 × Int32 × Int32 × Int32 => none) (fun x3 => [(q_this, .inr (3, [.ref q_text, .int s_end, .int x3.1, .int x3.2.1, .int x3.2.2.1, .int x3.2.2.2, .ref q_told, .int x1.2.2.2.2.2.1, .int x1.2.2.2.2.2.2])), (q_text, .inl (E.2.1 1, 1200, .inl s_text))]) (fun x3 => [(q_this, .inr (3, [.ref q_text, .int s_end, .int x3.1, .int x3.2.1, .int x3.2.2.1, .int x3.2.2.2, .ref q_told, .int x1.2.2.2.2.2.1, .int x1.2.2.2.2.2.2])), (q_text, .inl (E.2.1 1, 1200, .inl s_text)), (q_told, .inr (1, [.int s_told_sets, .int s_told_ways, .int s_told_weighed, .int s_told_linesTold, v_told_toldAlready, v_told_memory, .int s_told_steps, v_told_stepSpot, v_told_stepWord, .int s_told_unsure, v_told_unsureSpot, v_told_unsureWord, .int s_told_seen, .ref q_told_seenStep, .ref q_told_seenHit, .int s_told_fitsKnown, .int s_told_fitBits])), (q_told_seenHit, .inl (E.2.1 0, 6, .inl s_told_seenHit)), (q_told_seenStep, .inl (E.2.1 0, 6, .inl s_told_seenStep))]) (fun x3 => []) [0, 1] [2, 3, 4] hf (fun x3 hx => wX4_takeToken E q_this q_text s_end x1.2.1 x1.2.2.1 x1.2.2.2.1 x1.2.2.2.2.1 x1.2.2.2.2.2.1 x1.2.2.2.2.2.2 s_text (.ref q_told) x3  hx) zy_X4_takeToken zw_309 (by unfold zRm; decide) rfl rfl (fun _ => rfl) (N := 5) (by decide) (fun _ => ⟨rfl, rfl, rfl⟩) rfl rfl rfl (Nat.le_of_ble_eq_true rfl) dX4_tellSeen_49 rfl rfl (fun _ => rfl) (fun x3 hf => ?_)
        refine j_aload_n (q := 53) hC dX4_tellSeen_52 rfl rfl 1 rfl ?_
        refine j_ldcS (q := 55) hC 10 (tx := "hit") (bs := [104, 105, 116]) dX4_tellSeen_53 rfl rfl ?_
        refine j_callV (q := 58) hC [.ref (E.2.2.2.1 10)] [] (fun x4 : Int32 => some (.int x4)) (fun x4 => [(q_this, .inr (3, [.ref q_text, .int s_end, .int x3.1, .int x3.2.1, .int x3.2.2.1, .int x3.2.2.2, .ref q_told, .int x1.2.2.2.2.2.1, .int x1.2.2.2.2.2.2])), (q_text, .inl (E.2.1 1, 1200, .inl s_text))]) (fun x4 => [(q_this, .inr (3, [.ref q_text, .int s_end, .int x3.1, .int x3.2.1, .int x3.2.2.1, .int x3.2.2.2, .ref q_told, .int x1.2.2.2.2.2.1, .int x1.2.2.2.2.2.2])), (q_text, .inl (E.2.1 1, 1200, .inl s_text)), (q_told, .inr (1, [.int s_told_sets, .int s_told_ways, .int s_told_weighed, .int s_told_linesTold, v_told_toldAlready, v_told_memory, .int s_told_steps, v_told_stepSpot, v_told_stepWord, .int s_told_unsure, v_told_unsureSpot, v_told_unsureWord, .int s_told_seen, .ref q_told_seenStep, .ref q_told_seenHit, .int s_told_fitsKnown, .int s_told_fitBits])), (q_told_seenHit, .inl (E.2.1 0, 6, .inl s_told_seenHit)), (q_told_seenStep, .inl (E.2.1 0, 6, .inl s_told_seenStep))]) (fun x4 => [.int x4]) [0, 1] [2, 3, 4] hf (fun x4 hx => wX4_isName E q_this q_text s_end x3.1 x3.2.1 x3.2.2.1 x3.2.2.2 x1.2.2.2.2.2.1 x1.2.2.2.2.2.2 s_text (.ref q_told) 10 x4 (by decide) hx) zy_X4_isName zw_322 (by unfold zRm; decide) rfl rfl (fun _ => rfl) (N := 5) (by decide) (fun _ => ⟨rfl, rfl, rfl⟩) rfl rfl rfl (Nat.le_of_ble_eq_true rfl) dX4_tellSeen_55 rfl rfl (fun _ => rfl) (fun x4 hf => ?_)
        refine j_if_ne (tgt := 76) (q := 61) hC dX4_tellSeen_58 (by decide) rfl hf (fun _ hf => ?_) (fun _ hf => ?_)
        · refine j_sub (lv' := [(0, .ref q_this), (1, .int x1.2.2.2.2.1)]) [1, 0] rfl ?_
          exact B76  x1.2.2.2.2.1 x3.1 x3.2.1 x3.2.2.1 x3.2.2.2 x1.2.2.2.2.2.1 x1.2.2.2.2.2.2 s_told_seen s_told_seenHit s_told_seenStep hf
        · refine j_aload_n (q := 62) hC dX4_tellSeen_61 rfl rfl 1 rfl ?_
          refine j_ldcS (q := 64) hC 11 (tx := "miss") (bs := [109, 105, 115, 115]) dX4_tellSeen_62 rfl rfl ?_
          refine j_callV (q := 67) hC [.ref (E.2.2.2.1 11)] [] (fun x5 : Int32 => some (.int x5)) (fun x5 => [(q_this, .inr (3, [.ref q_text, .int s_end, .int x3.1, .int x3.2.1, .int x3.2.2.1, .int x3.2.2.2, .ref q_told, .int x1.2.2.2.2.2.1, .int x1.2.2.2.2.2.2])), (q_text, .inl (E.2.1 1, 1200, .inl s_text))]) (fun x5 => [(q_this, .inr (3, [.ref q_text, .int s_end, .int x3.1, .int x3.2.1, .int x3.2.2.1, .int x3.2.2.2, .ref q_told, .int x1.2.2.2.2.2.1, .int x1.2.2.2.2.2.2])), (q_text, .inl (E.2.1 1, 1200, .inl s_text)), (q_told, .inr (1, [.int s_told_sets, .int s_told_ways, .int s_told_weighed, .int s_told_linesTold, v_told_toldAlready, v_told_memory, .int s_told_steps, v_told_stepSpot, v_told_stepWord, .int s_told_unsure, v_told_unsureSpot, v_told_unsureWord, .int s_told_seen, .ref q_told_seenStep, .ref q_told_seenHit, .int s_told_fitsKnown, .int s_told_fitBits])), (q_told_seenHit, .inl (E.2.1 0, 6, .inl s_told_seenHit)), (q_told_seenStep, .inl (E.2.1 0, 6, .inl s_told_seenStep))]) (fun x5 => [.int x5]) [0, 1] [2, 3, 4] hf (fun x5 hx => wX4_isName E q_this q_text s_end x3.1 x3.2.1 x3.2.2.1 x3.2.2.2 x1.2.2.2.2.2.1 x1.2.2.2.2.2.2 s_text (.ref q_told) 11 x5 (by decide) hx) zy_X4_isName zw_322 (by unfold zRm; decide) rfl rfl (fun _ => rfl) (N := 5) (by decide) (fun _ => ⟨rfl, rfl, rfl⟩) rfl rfl rfl (Nat.le_of_ble_eq_true rfl) dX4_tellSeen_64 rfl rfl (fun _ => rfl) (fun x5 hf => ?_)
          refine j_if_ne (tgt := 76) (q := 70) hC dX4_tellSeen_67 (by decide) rfl hf (fun _ hf => ?_) (fun _ hf => ?_)
          · refine j_sub (lv' := [(0, .ref q_this), (1, .int x1.2.2.2.2.1)]) [1, 0] rfl ?_
            exact B76  x1.2.2.2.2.1 x3.1 x3.2.1 x3.2.2.1 x3.2.2.2 x1.2.2.2.2.2.1 x1.2.2.2.2.2.2 s_told_seen s_told_seenHit s_told_seenStep hf
          · refine j_aload_n (q := 71) hC dX4_tellSeen_70 rfl rfl 1 rfl ?_
            refine j_iconst (q := 72) (v := 1) hC dX4_tellSeen_71 rfl (by decide) ?_
            refine j_callV (q := 75) hC [.int 1] [] (fun x6 : Int32 × Int32 × Int32 => some (.int x6.1)) (fun x6 => [(q_this, .inr (3, [.ref q_text, .int s_end, .int x3.1, .int x3.2.1, .int x3.2.2.1, .int x3.2.2.2, .ref q_told, .int x6.2.1, .int x6.2.2]))]) (fun x6 => [(q_this, .inr (3, [.ref q_text, .int s_end, .int x3.1, .int x3.2.1, .int x3.2.2.1, .int x3.2.2.2, .ref q_told, .int x6.2.1, .int x6.2.2])), (q_text, .inl (E.2.1 1, 1200, .inl s_text)), (q_told, .inr (1, [.int s_told_sets, .int s_told_ways, .int s_told_weighed, .int s_told_linesTold, v_told_toldAlready, v_told_memory, .int s_told_steps, v_told_stepSpot, v_told_stepWord, .int s_told_unsure, v_told_unsureSpot, v_told_unsureWord, .int s_told_seen, .ref q_told_seenStep, .ref q_told_seenHit, .int s_told_fitsKnown, .int s_told_fitBits])), (q_told_seenHit, .inl (E.2.1 0, 6, .inl s_told_seenHit)), (q_told_seenStep, .inl (E.2.1 0, 6, .inl s_told_seenStep))]) (fun x6 => [.int x6.1]) [0] [1, 2, 3, 4] hf (fun x6 hx => wX4_fail E q_this s_end x3.1 x3.2.1 x3.2.2.1 x3.2.2.2 x1.2.2.2.2.2.1 x1.2.2.2.2.2.2 (.ref q_text) (.ref q_told) 1 x6  hx) zy_X4_fail zw_374 (by unfold zRm; decide) rfl rfl (fun _ => rfl) (N := 5) (by decide) (fun _ => ⟨rfl, rfl, rfl⟩) rfl rfl rfl (Nat.le_of_ble_eq_true rfl) dX4_tellSeen_72 rfl rfl (fun _ => rfl) (fun x6 hf => ?_)
            obtain ⟨hz, hf⟩ := zbl_s hf
            have hx := Option.some.inj hf
            exact j_zret hC hR (zbl_n hz) dX4_tellSeen_75 (by rw [← hx]) (by rw [← hx])
      · refine j_aload_n (q := 43) hC dX4_tellSeen_42 rfl rfl 1 rfl ?_
        refine j_iconst (q := 44) (v := 3) hC dX4_tellSeen_43 rfl (by decide) ?_
        refine j_callV (q := 47) hC [.int 3] [] (fun x7 : Int32 × Int32 × Int32 => some (.int x7.1)) (fun x7 => [(q_this, .inr (3, [.ref q_text, .int s_end, .int x1.2.1, .int x1.2.2.1, .int x1.2.2.2.1, .int x1.2.2.2.2.1, .ref q_told, .int x7.2.1, .int x7.2.2]))]) (fun x7 => [(q_this, .inr (3, [.ref q_text, .int s_end, .int x1.2.1, .int x1.2.2.1, .int x1.2.2.2.1, .int x1.2.2.2.2.1, .ref q_told, .int x7.2.1, .int x7.2.2])), (q_text, .inl (E.2.1 1, 1200, .inl s_text)), (q_told, .inr (1, [.int s_told_sets, .int s_told_ways, .int s_told_weighed, .int s_told_linesTold, v_told_toldAlready, v_told_memory, .int s_told_steps, v_told_stepSpot, v_told_stepWord, .int s_told_unsure, v_told_unsureSpot, v_told_unsureWord, .int s_told_seen, .ref q_told_seenStep, .ref q_told_seenHit, .int s_told_fitsKnown, .int s_told_fitBits])), (q_told_seenHit, .inl (E.2.1 0, 6, .inl s_told_seenHit)), (q_told_seenStep, .inl (E.2.1 0, 6, .inl s_told_seenStep))]) (fun x7 => [.int x7.1]) [0] [1, 2, 3, 4] hf (fun x7 hx => wX4_fail E q_this s_end x1.2.1 x1.2.2.1 x1.2.2.2.1 x1.2.2.2.2.1 x1.2.2.2.2.2.1 x1.2.2.2.2.2.2 (.ref q_text) (.ref q_told) 3 x7  hx) zy_X4_fail zw_374 (by unfold zRm; decide) rfl rfl (fun _ => rfl) (N := 5) (by decide) (fun _ => ⟨rfl, rfl, rfl⟩) rfl rfl rfl (Nat.le_of_ble_eq_true rfl) dX4_tellSeen_44 rfl rfl (fun _ => rfl) (fun x7 hf => ?_)
        obtain ⟨hz, hf⟩ := zbl_s hf
        have hx := Option.some.inj hf
        exact j_zret hC hR (zbl_n hz) dX4_tellSeen_47 (by rw [← hx]) (by rw [← hx])
    · refine j_aload_n (q := 26) hC dX4_tellSeen_25 rfl rfl 1 rfl ?_
      refine j_iconst (q := 27) (v := 2) hC dX4_tellSeen_26 rfl (by decide) ?_
      refine j_callV (q := 30) hC [.int 2] [] (fun x8 : Int32 × Int32 × Int32 => some (.int x8.1)) (fun x8 => [(q_this, .inr (3, [.ref q_text, .int s_end, .int x1.2.1, .int x1.2.2.1, .int x1.2.2.2.1, .int x1.2.2.2.2.1, .ref q_told, .int x8.2.1, .int x8.2.2]))]) (fun x8 => [(q_this, .inr (3, [.ref q_text, .int s_end, .int x1.2.1, .int x1.2.2.1, .int x1.2.2.2.1, .int x1.2.2.2.2.1, .ref q_told, .int x8.2.1, .int x8.2.2])), (q_text, .inl (E.2.1 1, 1200, .inl s_text)), (q_told, .inr (1, [.int s_told_sets, .int s_told_ways, .int s_told_weighed, .int s_told_linesTold, v_told_toldAlready, v_told_memory, .int s_told_steps, v_told_stepSpot, v_told_stepWord, .int s_told_unsure, v_told_unsureSpot, v_told_unsureWord, .int s_told_seen, .ref q_told_seenStep, .ref q_told_seenHit, .int s_told_fitsKnown, .int s_told_fitBits])), (q_told_seenHit, .inl (E.2.1 0, 6, .inl s_told_seenHit)), (q_told_seenStep, .inl (E.2.1 0, 6, .inl s_told_seenStep))]) (fun x8 => [.int x8.1]) [0] [1, 2, 3, 4] hf (fun x8 hx => wX4_fail E q_this s_end x1.2.1 x1.2.2.1 x1.2.2.2.1 x1.2.2.2.2.1 x1.2.2.2.2.2.1 x1.2.2.2.2.2.2 (.ref q_text) (.ref q_told) 2 x8  hx) zy_X4_fail zw_374 (by unfold zRm; decide) rfl rfl (fun _ => rfl) (N := 5) (by decide) (fun _ => ⟨rfl, rfl, rfl⟩) rfl rfl rfl (Nat.le_of_ble_eq_true rfl) dX4_tellSeen_27 rfl rfl (fun _ => rfl) (fun x8 hf => ?_)
      obtain ⟨hz, hf⟩ := zbl_s hf
      have hx := Option.some.inj hf
      exact j_zret hC hR (zbl_n hz) dX4_tellSeen_30 (by rw [← hx]) (by rw [← hx])
  · refine j_iconst (q := 8) (v := 0) hC dX4_tellSeen_7 rfl (by decide) ?_
    have hx := Option.some.inj hf
    exact j_zret hC hR rfl dX4_tellSeen_8 (by rw [← hx]) (by rw [← hx])
noncomputable def fX4_takeWithin_23 (s_end : Int32) (s_text : (Nat → Int32))  (s_at : Int32) (s_kind : Int32) (s_start : Int32) (s_value : Int32) (s_faultFound : Int32) (s_faultPlace : Int32) : Option (Int32 × Int32 × Int32 × Int32 × Int32 × Int32 × Int32) :=
  (fX4_fail s_start s_faultFound s_faultPlace 4).bind fun x1 =>
    if x1.1 = 0 then (some (0, s_at, s_kind, s_start, s_value, x1.2.1, x1.2.2))
    else (some (1, s_at, s_kind, s_start, s_value, x1.2.1, x1.2.2))
noncomputable def fX4_takeWithin (s_end : Int32) (s_at : Int32) (s_kind : Int32) (s_start : Int32) (s_value : Int32) (s_faultFound : Int32) (s_faultPlace : Int32) (s_text : (Nat → Int32)) (a1 : Int32) (a2 : Int32) : Option (Int32 × Int32 × Int32 × Int32 × Int32 × Int32 × Int32) :=
  (fX4_takeWhole s_end s_at s_kind s_start s_value s_faultFound s_faultPlace s_text).bind fun x1 =>
    if x1.1 = 0 then (some (0, x1.2.1, x1.2.2.1, x1.2.2.2.1, x1.2.2.2.2.1, x1.2.2.2.2.2.1, x1.2.2.2.2.2.2))
    else (if x1.2.2.2.2.1 < a1 then (fX4_takeWithin_23 s_end s_text  x1.2.1 x1.2.2.1 x1.2.2.2.1 x1.2.2.2.2.1 x1.2.2.2.2.2.1 x1.2.2.2.2.2.2)
    else (if x1.2.2.2.2.1 ≤ a2 then (some (1, x1.2.1, x1.2.2.1, x1.2.2.2.1, x1.2.2.2.2.1, x1.2.2.2.2.2.1, x1.2.2.2.2.2.2))
    else (fX4_takeWithin_23 s_end s_text  x1.2.1 x1.2.2.1 x1.2.2.2.1 x1.2.2.2.2.1 x1.2.2.2.2.2.1 x1.2.2.2.2.2.2)))
set_option maxHeartbeats 4000000 in
set_option maxRecDepth 100000 in
theorem wX4_takeWithin (E : zE) (q_this : Nat) (q_text : Nat) (s_end : Int32) (s_at : Int32) (s_kind : Int32) (s_start : Int32) (s_value : Int32) (s_faultFound : Int32) (s_faultPlace : Int32) (s_text : (Nat → Int32)) (v_told : Value) (a1 : Int32) (a2 : Int32) (x : Int32 × Int32 × Int32 × Int32 × Int32 × Int32 × Int32) (hf : fX4_takeWithin s_end s_at s_kind s_start s_value s_faultFound s_faultPlace s_text a1 a2 = some x) (l : Launch) (sz : Nat) : zM l yX4_takeWithin cX4_takeWithin 3 (some .boolean) { frames := 3, cells := 0, slots := 0, locals := 62 } E [.ref q_this, .int a1, .int a2] [(q_this, .inr (3, [.ref q_text, .int s_end, .int s_at, .int s_kind, .int s_start, .int s_value, v_told, .int s_faultFound, .int s_faultPlace])), (q_text, .inl (E.2.1 1, 1200, .inl s_text))] sz (some (.int x.1)) [(q_this, .inr (3, [.ref q_text, .int s_end, .int x.2.1, .int x.2.2.1, .int x.2.2.2.1, .int x.2.2.2.2.1, v_told, .int x.2.2.2.2.2.1, .int x.2.2.2.2.2.2])), (q_text, .inl (E.2.1 1, 1200, .inl s_text))] := by
  refine zEnter (by decide) (Nat.le_of_ble_eq_true rfl) ?_
  intro C hC hR
  change zC C E cX4_takeWithin "PackedCache$Teller" 3 _ at hC
  have B23 : ∀ (s_at : Int32) (s_kind : Int32) (s_start : Int32) (s_value : Int32) (s_faultFound : Int32) (s_faultPlace : Int32), fX4_takeWithin_23 s_end s_text  s_at s_kind s_start s_value s_faultFound s_faultPlace = some x → J C 0 0 [(q_this, .inr (3, [.ref q_text, .int s_end, .int s_at, .int s_kind, .int s_start, .int s_value, v_told, .int s_faultFound, .int s_faultPlace])), (q_text, .inl (E.2.1 1, 1200, .inl s_text))] [(0, .ref q_this)] 23 [] := by
    intro  s_at s_kind s_start s_value s_faultFound s_faultPlace hf
    unfold fX4_takeWithin_23 at hf
    refine j_aload_n (q := 24) hC dX4_takeWithin_23 rfl rfl 0 rfl ?_
    refine j_iconst (q := 25) (v := 4) hC dX4_takeWithin_24 rfl (by decide) ?_
    refine j_callV (q := 28) hC [.int 4] [] (fun x1 : Int32 × Int32 × Int32 => some (.int x1.1)) (fun x1 => [(q_this, .inr (3, [.ref q_text, .int s_end, .int s_at, .int s_kind, .int s_start, .int s_value, v_told, .int x1.2.1, .int x1.2.2]))]) (fun x1 => [(q_this, .inr (3, [.ref q_text, .int s_end, .int s_at, .int s_kind, .int s_start, .int s_value, v_told, .int x1.2.1, .int x1.2.2])), (q_text, .inl (E.2.1 1, 1200, .inl s_text))]) (fun x1 => [.int x1.1]) [0] [1] hf (fun x1 hx => wX4_fail E q_this s_end s_at s_kind s_start s_value s_faultFound s_faultPlace (.ref q_text) (v_told) 4 x1  hx) zy_X4_fail zw_374 (by unfold zRm; decide) rfl rfl (fun _ => rfl) (N := 2) (by decide) (fun _ => ⟨rfl, rfl, rfl⟩) rfl rfl rfl (Nat.le_of_ble_eq_true rfl) dX4_takeWithin_25 rfl rfl (fun _ => rfl) (fun x1 hf => ?_)
    refine j_if_eq (tgt := 35) (q := 31) hC dX4_takeWithin_28 (by decide) rfl hf (fun _ hf => ?_) (fun _ hf => ?_)
    · refine j_iconst (q := 36) (v := 0) hC dX4_takeWithin_35 rfl (by decide) ?_
      have hx := Option.some.inj hf
      exact j_zret hC hR rfl dX4_takeWithin_36 (by rw [← hx]) (by rw [← hx])
    · refine j_iconst (q := 32) (v := 1) hC dX4_takeWithin_31 rfl (by decide) ?_
      refine j_goto (tgt := 36) hC dX4_takeWithin_32 (by decide) ?_
      have hx := Option.some.inj hf
      exact j_zret hC hR rfl dX4_takeWithin_36 (by rw [← hx]) (by rw [← hx])
  unfold fX4_takeWithin at hf
  refine j_sub (lv' := [(0, .ref q_this), (1, .int a1), (2, .int a2)]) [0, 1, 2] rfl ?_
  refine j_aload_n (q := 1) hC dX4_takeWithin_0 rfl rfl 0 rfl ?_
  refine j_callV (q := 4) hC [] [] (fun x1 : Int32 × Int32 × Int32 × Int32 × Int32 × Int32 × Int32 => some (.int x1.1)) (fun x1 => [(q_this, .inr (3, [.ref q_text, .int s_end, .int x1.2.1, .int x1.2.2.1, .int x1.2.2.2.1, .int x1.2.2.2.2.1, v_told, .int x1.2.2.2.2.2.1, .int x1.2.2.2.2.2.2])), (q_text, .inl (E.2.1 1, 1200, .inl s_text))]) (fun x1 => [(q_this, .inr (3, [.ref q_text, .int s_end, .int x1.2.1, .int x1.2.2.1, .int x1.2.2.2.1, .int x1.2.2.2.2.1, v_told, .int x1.2.2.2.2.2.1, .int x1.2.2.2.2.2.2])), (q_text, .inl (E.2.1 1, 1200, .inl s_text))]) (fun x1 => [.int x1.1]) [0, 1] [] hf (fun x1 hx => wX4_takeWhole E q_this q_text s_end s_at s_kind s_start s_value s_faultFound s_faultPlace s_text (v_told) x1  hx) zy_X4_takeWhole zw_391 (by unfold zRm; decide) rfl rfl (fun _ => rfl) (N := 2) (by decide) (fun _ => ⟨rfl, rfl, rfl⟩) rfl rfl rfl (Nat.le_of_ble_eq_true rfl) dX4_takeWithin_1 rfl rfl (fun _ => rfl) (fun x1 hf => ?_)
  refine j_if_eq (tgt := 35) (q := 7) hC dX4_takeWithin_4 (by decide) rfl hf (fun _ hf => ?_) (fun _ hf => ?_)
  · refine j_iconst (q := 36) (v := 0) hC dX4_takeWithin_35 rfl (by decide) ?_
    have hx := Option.some.inj hf
    exact j_zret hC hR rfl dX4_takeWithin_36 (by rw [← hx]) (by rw [← hx])
  · refine j_aload_n (q := 8) hC dX4_takeWithin_7 rfl rfl 0 rfl ?_
    refine j_get (q := 11) hC zcl_X4 0 5 zw_134 ⟨rfl, rfl, by decide⟩ rfl rfl dX4_takeWithin_8 rfl ?_
    refine j_iload_n (q := 12) hC dX4_takeWithin_11 rfl rfl 1 rfl ?_
    refine j_icmp_lt (tgt := 23) (q := 15) hC dX4_takeWithin_12 (by decide) rfl hf (fun _ hf => ?_) (fun _ hf => ?_)
    · refine j_sub (lv' := [(0, .ref q_this)]) [0] rfl ?_
      exact B23  x1.2.1 x1.2.2.1 x1.2.2.2.1 x1.2.2.2.2.1 x1.2.2.2.2.2.1 x1.2.2.2.2.2.2 hf
    · refine j_aload_n (q := 16) hC dX4_takeWithin_15 rfl rfl 0 rfl ?_
      refine j_get (q := 19) hC zcl_X4 0 5 zw_134 ⟨rfl, rfl, by decide⟩ rfl rfl dX4_takeWithin_16 rfl ?_
      refine j_iload_n (q := 20) hC dX4_takeWithin_19 rfl rfl 2 rfl ?_
      refine j_icmp_le (tgt := 31) (q := 23) hC dX4_takeWithin_20 (by decide) rfl hf (fun _ hf => ?_) (fun _ hf => ?_)
      · refine j_iconst (q := 32) (v := 1) hC dX4_takeWithin_31 rfl (by decide) ?_
        refine j_goto (tgt := 36) hC dX4_takeWithin_32 (by decide) ?_
        have hx := Option.some.inj hf
        exact j_zret hC hR rfl dX4_takeWithin_36 (by rw [← hx]) (by rw [← hx])
      · refine j_sub (lv' := [(0, .ref q_this)]) [0] rfl ?_
        exact B23  x1.2.1 x1.2.2.1 x1.2.2.2.1 x1.2.2.2.2.1 x1.2.2.2.2.2.1 x1.2.2.2.2.2.2 hf
noncomputable def fX4_tellUnsure (s_end : Int32) (s_at : Int32) (s_kind : Int32) (s_start : Int32) (s_value : Int32) (s_faultFound : Int32) (s_faultPlace : Int32) (s_text : (Nat → Int32)) (s_told_unsure : Int32) (s_told_unsureSpot : (Nat → Int32)) (s_told_unsureWord : (Nat → Int32)) : Option (Int32 × Int32 × Int32 × Int32 × Int32 × Int32 × Int32 × Int32 × (Nat → Int32) × (Nat → Int32)) :=
  (fX4_takeWithin s_end s_at s_kind s_start s_value s_faultFound s_faultPlace s_text 0 31).bind fun x1 =>
    if x1.1 = 0 then (some (0, x1.2.1, x1.2.2.1, x1.2.2.2.1, x1.2.2.2.2.1, x1.2.2.2.2.2.1, x1.2.2.2.2.2.2, s_told_unsure, s_told_unsureSpot, s_told_unsureWord))
    else ((fX4_takeWithin s_end x1.2.1 x1.2.2.1 x1.2.2.2.1 x1.2.2.2.2.1 x1.2.2.2.2.2.1 x1.2.2.2.2.2.2 s_text 0 7).bind fun x2 =>
    if x2.1 = 0 then (some (0, x2.2.1, x2.2.2.1, x2.2.2.2.1, x2.2.2.2.2.1, x2.2.2.2.2.2.1, x2.2.2.2.2.2.2, s_told_unsure, s_told_unsureSpot, s_told_unsureWord))
    else (zlet (x1.2.2.2.2.1 * 8 : Int32) fun x3 =>
    zlet (x3 + x2.2.2.2.2.1 : Int32) fun x4 =>
    (fX1_isUnsure s_told_unsure s_told_unsureSpot x4).bind fun x5 =>
    if x5 = 0 then ((fX4_takeWithin s_end x2.2.1 x2.2.2.1 x2.2.2.2.1 x2.2.2.2.2.1 x2.2.2.2.2.2.1 x2.2.2.2.2.2.2 s_text 0 65535).bind fun x6 =>
    if x6.1 = 0 then (some (0, x6.2.1, x6.2.2.1, x6.2.2.2.1, x6.2.2.2.2.1, x6.2.2.2.2.2.1, x6.2.2.2.2.2.2, s_told_unsure, s_told_unsureSpot, s_told_unsureWord))
    else (zast s_told_unsureSpot 4 s_told_unsure x4 fun x7 =>
    zast s_told_unsureWord 4 s_told_unsure x6.2.2.2.2.1 fun x8 =>
    zlet (s_told_unsure + 1 : Int32) fun x9 =>
    some (1, x6.2.1, x6.2.2.1, x6.2.2.2.1, x6.2.2.2.2.1, x6.2.2.2.2.2.1, x6.2.2.2.2.2.2, x9, x7, x8)))
    else ((fX4_fail x2.2.2.2.1 x2.2.2.2.2.2.1 x2.2.2.2.2.2.2 3).bind fun x10 =>
    zbl x10.1 (some (x10.1, x2.2.1, x2.2.2.1, x2.2.2.2.1, x2.2.2.2.2.1, x10.2.1, x10.2.2, s_told_unsure, s_told_unsureSpot, s_told_unsureWord)))))
set_option maxHeartbeats 4000000 in
set_option maxRecDepth 100000 in
theorem wX4_tellUnsure (E : zE) (q_this : Nat) (q_text : Nat) (q_told : Nat) (q_told_unsureSpot : Nat) (q_told_unsureWord : Nat) (s_end : Int32) (s_at : Int32) (s_kind : Int32) (s_start : Int32) (s_value : Int32) (s_faultFound : Int32) (s_faultPlace : Int32) (s_text : (Nat → Int32)) (s_told_sets : Int32) (s_told_ways : Int32) (s_told_weighed : Int32) (s_told_linesTold : Int32) (s_told_steps : Int32) (s_told_unsure : Int32) (s_told_seen : Int32) (s_told_fitsKnown : Int32) (s_told_fitBits : Int32) (s_told_unsureSpot : (Nat → Int32)) (s_told_unsureWord : (Nat → Int32)) (v_told_toldAlready : Value) (v_told_memory : Value) (v_told_stepSpot : Value) (v_told_stepWord : Value) (v_told_seenStep : Value) (v_told_seenHit : Value) (x : Int32 × Int32 × Int32 × Int32 × Int32 × Int32 × Int32 × Int32 × (Nat → Int32) × (Nat → Int32)) (hf : fX4_tellUnsure s_end s_at s_kind s_start s_value s_faultFound s_faultPlace s_text s_told_unsure s_told_unsureSpot s_told_unsureWord = some x) (l : Launch) (sz : Nat) : zM l yX4_tellUnsure cX4_tellUnsure 3 (some .boolean) { frames := 4, cells := 0, slots := 0, locals := 84 } E [.ref q_this] [(q_this, .inr (3, [.ref q_text, .int s_end, .int s_at, .int s_kind, .int s_start, .int s_value, .ref q_told, .int s_faultFound, .int s_faultPlace])), (q_text, .inl (E.2.1 1, 1200, .inl s_text)), (q_told, .inr (1, [.int s_told_sets, .int s_told_ways, .int s_told_weighed, .int s_told_linesTold, v_told_toldAlready, v_told_memory, .int s_told_steps, v_told_stepSpot, v_told_stepWord, .int s_told_unsure, .ref q_told_unsureSpot, .ref q_told_unsureWord, .int s_told_seen, v_told_seenStep, v_told_seenHit, .int s_told_fitsKnown, .int s_told_fitBits])), (q_told_unsureSpot, .inl (E.2.1 0, 4, .inl s_told_unsureSpot)), (q_told_unsureWord, .inl (E.2.1 0, 4, .inl s_told_unsureWord))] sz (some (.int x.1)) [(q_this, .inr (3, [.ref q_text, .int s_end, .int x.2.1, .int x.2.2.1, .int x.2.2.2.1, .int x.2.2.2.2.1, .ref q_told, .int x.2.2.2.2.2.1, .int x.2.2.2.2.2.2.1])), (q_text, .inl (E.2.1 1, 1200, .inl s_text)), (q_told, .inr (1, [.int s_told_sets, .int s_told_ways, .int s_told_weighed, .int s_told_linesTold, v_told_toldAlready, v_told_memory, .int s_told_steps, v_told_stepSpot, v_told_stepWord, .int x.2.2.2.2.2.2.2.1, .ref q_told_unsureSpot, .ref q_told_unsureWord, .int s_told_seen, v_told_seenStep, v_told_seenHit, .int s_told_fitsKnown, .int s_told_fitBits])), (q_told_unsureSpot, .inl (E.2.1 0, 4, .inl x.2.2.2.2.2.2.2.2.1)), (q_told_unsureWord, .inl (E.2.1 0, 4, .inl x.2.2.2.2.2.2.2.2.2))] := by
  refine zEnter (by decide) (Nat.le_of_ble_eq_true rfl) ?_
  intro C hC hR
  change zC C E cX4_tellUnsure "PackedCache$Teller" 3 _ at hC
  unfold fX4_tellUnsure at hf
  refine j_sub (lv' := [(0, .ref q_this)]) [0] rfl ?_
  refine j_aload_n (q := 1) hC dX4_tellUnsure_0 rfl rfl 0 rfl ?_
  refine j_iconst (q := 2) (v := 0) hC dX4_tellUnsure_1 rfl (by decide) ?_
  refine j_bipush (q := 4) (v := 31) hC dX4_tellUnsure_2 rfl (by decide) ?_
  refine j_callV (q := 7) hC [.int 0, .int 31] [] (fun x1 : Int32 × Int32 × Int32 × Int32 × Int32 × Int32 × Int32 => some (.int x1.1)) (fun x1 => [(q_this, .inr (3, [.ref q_text, .int s_end, .int x1.2.1, .int x1.2.2.1, .int x1.2.2.2.1, .int x1.2.2.2.2.1, .ref q_told, .int x1.2.2.2.2.2.1, .int x1.2.2.2.2.2.2])), (q_text, .inl (E.2.1 1, 1200, .inl s_text))]) (fun x1 => [(q_this, .inr (3, [.ref q_text, .int s_end, .int x1.2.1, .int x1.2.2.1, .int x1.2.2.2.1, .int x1.2.2.2.2.1, .ref q_told, .int x1.2.2.2.2.2.1, .int x1.2.2.2.2.2.2])), (q_text, .inl (E.2.1 1, 1200, .inl s_text)), (q_told, .inr (1, [.int s_told_sets, .int s_told_ways, .int s_told_weighed, .int s_told_linesTold, v_told_toldAlready, v_told_memory, .int s_told_steps, v_told_stepSpot, v_told_stepWord, .int s_told_unsure, .ref q_told_unsureSpot, .ref q_told_unsureWord, .int s_told_seen, v_told_seenStep, v_told_seenHit, .int s_told_fitsKnown, .int s_told_fitBits])), (q_told_unsureSpot, .inl (E.2.1 0, 4, .inl s_told_unsureSpot)), (q_told_unsureWord, .inl (E.2.1 0, 4, .inl s_told_unsureWord))]) (fun x1 => [.int x1.1]) [0, 1] [2, 3, 4] hf (fun x1 hx => wX4_takeWithin E q_this q_text s_end s_at s_kind s_start s_value s_faultFound s_faultPlace s_text (.ref q_told) 0 31 x1  hx) zy_X4_takeWithin zw_387 (by unfold zRm; decide) rfl rfl (fun _ => rfl) (N := 5) (by decide) (fun _ => ⟨rfl, rfl, rfl⟩) rfl rfl rfl (Nat.le_of_ble_eq_true rfl) dX4_tellUnsure_4 rfl rfl (fun _ => rfl) (fun x1 hf => ?_)
  refine j_if_ne (tgt := 12) (q := 10) hC dX4_tellUnsure_7 (by decide) rfl hf (fun _ hf => ?_) (fun _ hf => ?_)
  · refine j_aload_n (q := 13) hC dX4_tellUnsure_12 rfl rfl 0 rfl ?_
    refine j_get (q := 16) hC zcl_X4 0 5 zw_134 ⟨rfl, rfl, by decide⟩ rfl rfl dX4_tellUnsure_13 rfl ?_
    refine j_istore_n (q := 17) (lv' := [(1, .int x1.2.2.2.2.1), (0, .ref q_this)]) hC dX4_tellUnsure_16 rfl rfl (by decide) rfl ?_
    refine j_aload_n (q := 18) hC dX4_tellUnsure_17 rfl rfl 1 rfl ?_
    refine j_iconst (q := 19) (v := 0) hC dX4_tellUnsure_18 rfl (by decide) ?_
    refine j_bipush (q := 21) (v := 7) hC dX4_tellUnsure_19 rfl (by decide) ?_
    refine j_callV (q := 24) hC [.int 0, .int 7] [] (fun x2 : Int32 × Int32 × Int32 × Int32 × Int32 × Int32 × Int32 => some (.int x2.1)) (fun x2 => [(q_this, .inr (3, [.ref q_text, .int s_end, .int x2.2.1, .int x2.2.2.1, .int x2.2.2.2.1, .int x2.2.2.2.2.1, .ref q_told, .int x2.2.2.2.2.2.1, .int x2.2.2.2.2.2.2])), (q_text, .inl (E.2.1 1, 1200, .inl s_text))]) (fun x2 => [(q_this, .inr (3, [.ref q_text, .int s_end, .int x2.2.1, .int x2.2.2.1, .int x2.2.2.2.1, .int x2.2.2.2.2.1, .ref q_told, .int x2.2.2.2.2.2.1, .int x2.2.2.2.2.2.2])), (q_text, .inl (E.2.1 1, 1200, .inl s_text)), (q_told, .inr (1, [.int s_told_sets, .int s_told_ways, .int s_told_weighed, .int s_told_linesTold, v_told_toldAlready, v_told_memory, .int s_told_steps, v_told_stepSpot, v_told_stepWord, .int s_told_unsure, .ref q_told_unsureSpot, .ref q_told_unsureWord, .int s_told_seen, v_told_seenStep, v_told_seenHit, .int s_told_fitsKnown, .int s_told_fitBits])), (q_told_unsureSpot, .inl (E.2.1 0, 4, .inl s_told_unsureSpot)), (q_told_unsureWord, .inl (E.2.1 0, 4, .inl s_told_unsureWord))]) (fun x2 => [.int x2.1]) [0, 1] [2, 3, 4] hf (fun x2 hx => wX4_takeWithin E q_this q_text s_end x1.2.1 x1.2.2.1 x1.2.2.2.1 x1.2.2.2.2.1 x1.2.2.2.2.2.1 x1.2.2.2.2.2.2 s_text (.ref q_told) 0 7 x2  hx) zy_X4_takeWithin zw_387 (by unfold zRm; decide) rfl rfl (fun _ => rfl) (N := 5) (by decide) (fun _ => ⟨rfl, rfl, rfl⟩) rfl rfl rfl (Nat.le_of_ble_eq_true rfl) dX4_tellUnsure_21 rfl rfl (fun _ => rfl) (fun x2 hf => ?_)
    refine j_if_ne (tgt := 29) (q := 27) hC dX4_tellUnsure_24 (by decide) rfl hf (fun _ hf => ?_) (fun _ hf => ?_)
    · refine j_iload_n (q := 30) hC dX4_tellUnsure_29 rfl rfl 0 rfl ?_
      refine j_bipush (q := 32) (v := 8) hC dX4_tellUnsure_30 rfl (by decide) ?_
      refine j_imul (q := 33) hC dX4_tellUnsure_32 rfl hf (fun x3 hf => ?_)
      refine j_aload_n (q := 34) hC dX4_tellUnsure_33 rfl rfl 1 rfl ?_
      refine j_get (q := 37) hC zcl_X4 0 5 zw_134 ⟨rfl, rfl, by decide⟩ rfl rfl dX4_tellUnsure_34 rfl ?_
      refine j_iadd (q := 38) hC dX4_tellUnsure_37 rfl hf (fun x4 hf => ?_)
      refine j_istore_n (q := 39) (lv' := [(2, .int x4), (1, .int x1.2.2.2.2.1), (0, .ref q_this)]) hC dX4_tellUnsure_38 rfl rfl (by decide) rfl ?_
      refine j_aload_n (q := 40) hC dX4_tellUnsure_39 rfl rfl 2 rfl ?_
      refine j_get (q := 43) hC zcl_X4 0 6 zw_135 ⟨rfl, rfl, by decide⟩ rfl rfl dX4_tellUnsure_40 rfl ?_
      refine j_iload_n (q := 44) hC dX4_tellUnsure_43 rfl rfl 0 rfl ?_
      refine j_callV (q := 47) hC [.int x4] [] (fun x5 : Int32 => some (.int x5)) (fun x5 => [(q_told, .inr (1, [.int s_told_sets, .int s_told_ways, .int s_told_weighed, .int s_told_linesTold, v_told_toldAlready, v_told_memory, .int s_told_steps, v_told_stepSpot, v_told_stepWord, .int s_told_unsure, .ref q_told_unsureSpot, .ref q_told_unsureWord, .int s_told_seen, v_told_seenStep, v_told_seenHit, .int s_told_fitsKnown, .int s_told_fitBits])), (q_told_unsureSpot, .inl (E.2.1 0, 4, .inl s_told_unsureSpot))]) (fun x5 => [(q_this, .inr (3, [.ref q_text, .int s_end, .int x2.2.1, .int x2.2.2.1, .int x2.2.2.2.1, .int x2.2.2.2.2.1, .ref q_told, .int x2.2.2.2.2.2.1, .int x2.2.2.2.2.2.2])), (q_text, .inl (E.2.1 1, 1200, .inl s_text)), (q_told, .inr (1, [.int s_told_sets, .int s_told_ways, .int s_told_weighed, .int s_told_linesTold, v_told_toldAlready, v_told_memory, .int s_told_steps, v_told_stepSpot, v_told_stepWord, .int s_told_unsure, .ref q_told_unsureSpot, .ref q_told_unsureWord, .int s_told_seen, v_told_seenStep, v_told_seenHit, .int s_told_fitsKnown, .int s_told_fitBits])), (q_told_unsureSpot, .inl (E.2.1 0, 4, .inl s_told_unsureSpot)), (q_told_unsureWord, .inl (E.2.1 0, 4, .inl s_told_unsureWord))]) (fun x5 => [.int x5]) [2, 3] [0, 1, 4] hf (fun x5 hx => wX1_isUnsure E q_told q_told_unsureSpot s_told_sets s_told_ways s_told_weighed s_told_linesTold s_told_steps s_told_unsure s_told_seen s_told_fitsKnown s_told_fitBits s_told_unsureSpot (v_told_toldAlready) (v_told_memory) (v_told_stepSpot) (v_told_stepWord) (.ref q_told_unsureWord) (v_told_seenStep) (v_told_seenHit) x4 x5  hx) zy_X1_isUnsure zw_419 (by unfold zRm; decide) rfl rfl (fun _ => rfl) (N := 5) (by decide) (fun _ => ⟨rfl, rfl, rfl⟩) rfl rfl rfl (Nat.le_of_ble_eq_true rfl) dX4_tellUnsure_44 rfl rfl (fun _ => rfl) (fun x5 hf => ?_)
      refine j_if_eq (tgt := 56) (q := 50) hC dX4_tellUnsure_47 (by decide) rfl hf (fun _ hf => ?_) (fun _ hf => ?_)
      · refine j_aload_n (q := 57) hC dX4_tellUnsure_56 rfl rfl 2 rfl ?_
        refine j_iconst (q := 58) (v := 0) hC dX4_tellUnsure_57 rfl (by decide) ?_
        refine j_ldc (q := 60) hC (v := 65535) dX4_tellUnsure_58 rfl zw_407 ?_
        refine j_callV (q := 63) hC [.int 0, .int 65535] [] (fun x6 : Int32 × Int32 × Int32 × Int32 × Int32 × Int32 × Int32 => some (.int x6.1)) (fun x6 => [(q_this, .inr (3, [.ref q_text, .int s_end, .int x6.2.1, .int x6.2.2.1, .int x6.2.2.2.1, .int x6.2.2.2.2.1, .ref q_told, .int x6.2.2.2.2.2.1, .int x6.2.2.2.2.2.2])), (q_text, .inl (E.2.1 1, 1200, .inl s_text))]) (fun x6 => [(q_this, .inr (3, [.ref q_text, .int s_end, .int x6.2.1, .int x6.2.2.1, .int x6.2.2.2.1, .int x6.2.2.2.2.1, .ref q_told, .int x6.2.2.2.2.2.1, .int x6.2.2.2.2.2.2])), (q_text, .inl (E.2.1 1, 1200, .inl s_text)), (q_told, .inr (1, [.int s_told_sets, .int s_told_ways, .int s_told_weighed, .int s_told_linesTold, v_told_toldAlready, v_told_memory, .int s_told_steps, v_told_stepSpot, v_told_stepWord, .int s_told_unsure, .ref q_told_unsureSpot, .ref q_told_unsureWord, .int s_told_seen, v_told_seenStep, v_told_seenHit, .int s_told_fitsKnown, .int s_told_fitBits])), (q_told_unsureSpot, .inl (E.2.1 0, 4, .inl s_told_unsureSpot)), (q_told_unsureWord, .inl (E.2.1 0, 4, .inl s_told_unsureWord))]) (fun x6 => [.int x6.1]) [0, 1] [2, 3, 4] hf (fun x6 hx => wX4_takeWithin E q_this q_text s_end x2.2.1 x2.2.2.1 x2.2.2.2.1 x2.2.2.2.2.1 x2.2.2.2.2.2.1 x2.2.2.2.2.2.2 s_text (.ref q_told) 0 65535 x6  hx) zy_X4_takeWithin zw_387 (by unfold zRm; decide) rfl rfl (fun _ => rfl) (N := 5) (by decide) (fun _ => ⟨rfl, rfl, rfl⟩) rfl rfl rfl (Nat.le_of_ble_eq_true rfl) dX4_tellUnsure_60 rfl rfl (fun _ => rfl) (fun x6 hf => ?_)
        refine j_if_ne (tgt := 68) (q := 66) hC dX4_tellUnsure_63 (by decide) rfl hf (fun _ hf => ?_) (fun _ hf => ?_)
        · refine j_aload_n (q := 69) hC dX4_tellUnsure_68 rfl rfl 2 rfl ?_
          refine j_get (q := 72) hC zcl_X4 0 6 zw_135 ⟨rfl, rfl, by decide⟩ rfl rfl dX4_tellUnsure_69 rfl ?_
          refine j_getN (q := 75) hC zcl_X1 2 10 zn_70 ⟨rfl, rfl, by decide⟩ rfl rfl dX4_tellUnsure_72 rfl ?_
          refine j_aload_n (q := 76) hC dX4_tellUnsure_75 rfl rfl 2 rfl ?_
          refine j_get (q := 79) hC zcl_X4 0 6 zw_135 ⟨rfl, rfl, by decide⟩ rfl rfl dX4_tellUnsure_76 rfl ?_
          refine j_getN (q := 82) hC zcl_X1 2 9 zn_66 ⟨rfl, rfl, by decide⟩ rfl rfl dX4_tellUnsure_79 rfl ?_
          refine j_iload_n (q := 83) hC dX4_tellUnsure_82 rfl rfl 0 rfl ?_
          refine j_iast (q := 84) hC (fun x7 => [(q_this, .inr (3, [.ref q_text, .int s_end, .int x6.2.1, .int x6.2.2.1, .int x6.2.2.2.1, .int x6.2.2.2.2.1, .ref q_told, .int x6.2.2.2.2.2.1, .int x6.2.2.2.2.2.2])), (q_text, .inl (E.2.1 1, 1200, .inl s_text)), (q_told, .inr (1, [.int s_told_sets, .int s_told_ways, .int s_told_weighed, .int s_told_linesTold, v_told_toldAlready, v_told_memory, .int s_told_steps, v_told_stepSpot, v_told_stepWord, .int s_told_unsure, .ref q_told_unsureSpot, .ref q_told_unsureWord, .int s_told_seen, v_told_seenStep, v_told_seenHit, .int s_told_fitsKnown, .int s_told_fitBits])), (q_told_unsureSpot, .inl (E.2.1 0, 4, .inl x7)), (q_told_unsureWord, .inl (E.2.1 0, 4, .inl s_told_unsureWord))]) 3 rfl (fun _ => rfl) dX4_tellUnsure_83 rfl hf (fun x7 hf => ?_)
          refine j_aload_n (q := 85) hC dX4_tellUnsure_84 rfl rfl 2 rfl ?_
          refine j_get (q := 88) hC zcl_X4 0 6 zw_135 ⟨rfl, rfl, by decide⟩ rfl rfl dX4_tellUnsure_85 rfl ?_
          refine j_getN (q := 91) hC zcl_X1 2 11 zn_73 ⟨rfl, rfl, by decide⟩ rfl rfl dX4_tellUnsure_88 rfl ?_
          refine j_aload_n (q := 92) hC dX4_tellUnsure_91 rfl rfl 2 rfl ?_
          refine j_get (q := 95) hC zcl_X4 0 6 zw_135 ⟨rfl, rfl, by decide⟩ rfl rfl dX4_tellUnsure_92 rfl ?_
          refine j_getN (q := 98) hC zcl_X1 2 9 zn_66 ⟨rfl, rfl, by decide⟩ rfl rfl dX4_tellUnsure_95 rfl ?_
          refine j_aload_n (q := 99) hC dX4_tellUnsure_98 rfl rfl 2 rfl ?_
          refine j_get (q := 102) hC zcl_X4 0 5 zw_134 ⟨rfl, rfl, by decide⟩ rfl rfl dX4_tellUnsure_99 rfl ?_
          refine j_iast (q := 103) hC (fun x8 => [(q_this, .inr (3, [.ref q_text, .int s_end, .int x6.2.1, .int x6.2.2.1, .int x6.2.2.2.1, .int x6.2.2.2.2.1, .ref q_told, .int x6.2.2.2.2.2.1, .int x6.2.2.2.2.2.2])), (q_text, .inl (E.2.1 1, 1200, .inl s_text)), (q_told, .inr (1, [.int s_told_sets, .int s_told_ways, .int s_told_weighed, .int s_told_linesTold, v_told_toldAlready, v_told_memory, .int s_told_steps, v_told_stepSpot, v_told_stepWord, .int s_told_unsure, .ref q_told_unsureSpot, .ref q_told_unsureWord, .int s_told_seen, v_told_seenStep, v_told_seenHit, .int s_told_fitsKnown, .int s_told_fitBits])), (q_told_unsureSpot, .inl (E.2.1 0, 4, .inl x7)), (q_told_unsureWord, .inl (E.2.1 0, 4, .inl x8))]) 4 rfl (fun _ => rfl) dX4_tellUnsure_102 rfl hf (fun x8 hf => ?_)
          refine j_aload_n (q := 104) hC dX4_tellUnsure_103 rfl rfl 2 rfl ?_
          refine j_get (q := 107) hC zcl_X4 0 6 zw_135 ⟨rfl, rfl, by decide⟩ rfl rfl dX4_tellUnsure_104 rfl ?_
          refine j_dup (q := 108) hC dX4_tellUnsure_107 rfl rfl ?_
          refine j_getN (q := 111) hC zcl_X1 2 9 zn_66 ⟨rfl, rfl, by decide⟩ rfl rfl dX4_tellUnsure_108 rfl ?_
          refine j_iconst (q := 112) (v := 1) hC dX4_tellUnsure_111 rfl (by decide) ?_
          refine j_iadd (q := 113) hC dX4_tellUnsure_112 rfl hf (fun x9 hf => ?_)
          refine j_putN (q := 116) hC zcl_X1 2 9 (ws' := [(q_this, .inr (3, [.ref q_text, .int s_end, .int x6.2.1, .int x6.2.2.1, .int x6.2.2.2.1, .int x6.2.2.2.2.1, .ref q_told, .int x6.2.2.2.2.2.1, .int x6.2.2.2.2.2.2])), (q_text, .inl (E.2.1 1, 1200, .inl s_text)), (q_told, .inr (1, [.int s_told_sets, .int s_told_ways, .int s_told_weighed, .int s_told_linesTold, v_told_toldAlready, v_told_memory, .int s_told_steps, v_told_stepSpot, v_told_stepWord, .int x9, .ref q_told_unsureSpot, .ref q_told_unsureWord, .int s_told_seen, v_told_seenStep, v_told_seenHit, .int s_told_fitsKnown, .int s_told_fitBits])), (q_told_unsureSpot, .inl (E.2.1 0, 4, .inl x7)), (q_told_unsureWord, .inl (E.2.1 0, 4, .inl x8))]) zn_66 ⟨rfl, rfl, by decide, rfl⟩ rfl rfl rfl (Nat.le_of_ble_eq_true rfl) rfl dX4_tellUnsure_113 rfl ?_
          refine j_iconst (q := 117) (v := 1) hC dX4_tellUnsure_116 rfl (by decide) ?_
          have hx := Option.some.inj hf
          exact j_zret hC hR rfl dX4_tellUnsure_117 (by rw [← hx]) (by rw [← hx])
        · refine j_iconst (q := 67) (v := 0) hC dX4_tellUnsure_66 rfl (by decide) ?_
          have hx := Option.some.inj hf
          exact j_zret hC hR rfl dX4_tellUnsure_67 (by rw [← hx]) (by rw [← hx])
      · refine j_aload_n (q := 51) hC dX4_tellUnsure_50 rfl rfl 2 rfl ?_
        refine j_iconst (q := 52) (v := 3) hC dX4_tellUnsure_51 rfl (by decide) ?_
        refine j_callV (q := 55) hC [.int 3] [] (fun x10 : Int32 × Int32 × Int32 => some (.int x10.1)) (fun x10 => [(q_this, .inr (3, [.ref q_text, .int s_end, .int x2.2.1, .int x2.2.2.1, .int x2.2.2.2.1, .int x2.2.2.2.2.1, .ref q_told, .int x10.2.1, .int x10.2.2]))]) (fun x10 => [(q_this, .inr (3, [.ref q_text, .int s_end, .int x2.2.1, .int x2.2.2.1, .int x2.2.2.2.1, .int x2.2.2.2.2.1, .ref q_told, .int x10.2.1, .int x10.2.2])), (q_text, .inl (E.2.1 1, 1200, .inl s_text)), (q_told, .inr (1, [.int s_told_sets, .int s_told_ways, .int s_told_weighed, .int s_told_linesTold, v_told_toldAlready, v_told_memory, .int s_told_steps, v_told_stepSpot, v_told_stepWord, .int s_told_unsure, .ref q_told_unsureSpot, .ref q_told_unsureWord, .int s_told_seen, v_told_seenStep, v_told_seenHit, .int s_told_fitsKnown, .int s_told_fitBits])), (q_told_unsureSpot, .inl (E.2.1 0, 4, .inl s_told_unsureSpot)), (q_told_unsureWord, .inl (E.2.1 0, 4, .inl s_told_unsureWord))]) (fun x10 => [.int x10.1]) [0] [1, 2, 3, 4] hf (fun x10 hx => wX4_fail E q_this s_end x2.2.1 x2.2.2.1 x2.2.2.2.1 x2.2.2.2.2.1 x2.2.2.2.2.2.1 x2.2.2.2.2.2.2 (.ref q_text) (.ref q_told) 3 x10  hx) zy_X4_fail zw_374 (by unfold zRm; decide) rfl rfl (fun _ => rfl) (N := 5) (by decide) (fun _ => ⟨rfl, rfl, rfl⟩) rfl rfl rfl (Nat.le_of_ble_eq_true rfl) dX4_tellUnsure_52 rfl rfl (fun _ => rfl) (fun x10 hf => ?_)
        obtain ⟨hz, hf⟩ := zbl_s hf
        have hx := Option.some.inj hf
        exact j_zret hC hR (zbl_n hz) dX4_tellUnsure_55 (by rw [← hx]) (by rw [← hx])
    · refine j_iconst (q := 28) (v := 0) hC dX4_tellUnsure_27 rfl (by decide) ?_
      have hx := Option.some.inj hf
      exact j_zret hC hR rfl dX4_tellUnsure_28 (by rw [← hx]) (by rw [← hx])
  · refine j_iconst (q := 11) (v := 0) hC dX4_tellUnsure_10 rfl (by decide) ?_
    have hx := Option.some.inj hf
    exact j_zret hC hR rfl dX4_tellUnsure_11 (by rw [← hx]) (by rw [← hx])
noncomputable def fX4_tellStep_97 (s_end : Int32) (s_text : (Nat → Int32))  (t0 : Int32) (t1 : Int32) (s_at : Int32) (s_kind : Int32) (s_start : Int32) (s_value : Int32) (s_faultFound : Int32) (s_faultPlace : Int32) (s_told_steps : Int32) (s_told_stepSpot : (Nat → Int32)) (s_told_stepWord : (Nat → Int32)) : Option (Int32 × Int32 × Int32 × Int32 × Int32 × Int32 × Int32 × Int32 × (Nat → Int32) × (Nat → Int32)) :=
  zast s_told_stepWord 16 t1 t0 fun x1 =>
    zlet (s_told_steps + 1 : Int32) fun x2 =>
    some (1, s_at, s_kind, s_start, s_value, s_faultFound, s_faultPlace, x2, s_told_stepSpot, x1)
noncomputable def fX4_tellStep_55 (s_end : Int32) (s_text : (Nat → Int32))  (b1 : Int32) (b3 : Int32) (s_at : Int32) (s_kind : Int32) (s_start : Int32) (s_value : Int32) (s_faultFound : Int32) (s_faultPlace : Int32) (s_told_steps : Int32) (s_told_stepSpot : (Nat → Int32)) (s_told_stepWord : (Nat → Int32)) : Option (Int32 × Int32 × Int32 × Int32 × Int32 × Int32 × Int32 × Int32 × (Nat → Int32) × (Nat → Int32)) :=
  zast s_told_stepSpot 16 s_told_steps b3 fun x1 =>
    if b1 = 0 then (fX4_tellStep_97 s_end s_text  (-1) s_told_steps s_at s_kind s_start s_value s_faultFound s_faultPlace s_told_steps x1 s_told_stepWord)
    else (fX4_tellStep_97 s_end s_text  s_value s_told_steps s_at s_kind s_start s_value s_faultFound s_faultPlace s_told_steps x1 s_told_stepWord)
noncomputable def fX4_tellStep (s_end : Int32) (s_at : Int32) (s_kind : Int32) (s_start : Int32) (s_value : Int32) (s_faultFound : Int32) (s_faultPlace : Int32) (s_text : (Nat → Int32)) (s_told_steps : Int32) (s_told_stepSpot : (Nat → Int32)) (s_told_stepWord : (Nat → Int32)) (a1 : Int32) : Option (Int32 × Int32 × Int32 × Int32 × Int32 × Int32 × Int32 × Int32 × (Nat → Int32) × (Nat → Int32)) :=
  (fX4_takeWithin s_end s_at s_kind s_start s_value s_faultFound s_faultPlace s_text 0 31).bind fun x1 =>
    if x1.1 = 0 then (some (0, x1.2.1, x1.2.2.1, x1.2.2.2.1, x1.2.2.2.2.1, x1.2.2.2.2.2.1, x1.2.2.2.2.2.2, s_told_steps, s_told_stepSpot, s_told_stepWord))
    else ((fX4_takeWithin s_end x1.2.1 x1.2.2.1 x1.2.2.2.1 x1.2.2.2.2.1 x1.2.2.2.2.2.1 x1.2.2.2.2.2.2 s_text 0 7).bind fun x2 =>
    if x2.1 = 0 then (some (0, x2.2.1, x2.2.2.1, x2.2.2.2.1, x2.2.2.2.2.1, x2.2.2.2.2.2.1, x2.2.2.2.2.2.2, s_told_steps, s_told_stepSpot, s_told_stepWord))
    else (zlet (x1.2.2.2.2.1 * 8 : Int32) fun x3 =>
    zlet (x3 + x2.2.2.2.2.1 : Int32) fun x4 =>
    if a1 = 0 then (fX4_tellStep_55 s_end s_text  a1 x4 x2.2.1 x2.2.2.1 x2.2.2.2.1 x2.2.2.2.2.1 x2.2.2.2.2.2.1 x2.2.2.2.2.2.2 s_told_steps s_told_stepSpot s_told_stepWord)
    else ((fX4_takeWithin s_end x2.2.1 x2.2.2.1 x2.2.2.2.1 x2.2.2.2.2.1 x2.2.2.2.2.2.1 x2.2.2.2.2.2.2 s_text 0 65535).bind fun x5 =>
    if x5.1 = 0 then (some (0, x5.2.1, x5.2.2.1, x5.2.2.2.1, x5.2.2.2.2.1, x5.2.2.2.2.2.1, x5.2.2.2.2.2.2, s_told_steps, s_told_stepSpot, s_told_stepWord))
    else (fX4_tellStep_55 s_end s_text  a1 x4 x5.2.1 x5.2.2.1 x5.2.2.2.1 x5.2.2.2.2.1 x5.2.2.2.2.2.1 x5.2.2.2.2.2.2 s_told_steps s_told_stepSpot s_told_stepWord))))
set_option maxHeartbeats 4000000 in
set_option maxRecDepth 100000 in
theorem wX4_tellStep (E : zE) (q_this : Nat) (q_text : Nat) (q_told : Nat) (q_told_stepSpot : Nat) (q_told_stepWord : Nat) (s_end : Int32) (s_at : Int32) (s_kind : Int32) (s_start : Int32) (s_value : Int32) (s_faultFound : Int32) (s_faultPlace : Int32) (s_text : (Nat → Int32)) (s_told_sets : Int32) (s_told_ways : Int32) (s_told_weighed : Int32) (s_told_linesTold : Int32) (s_told_steps : Int32) (s_told_unsure : Int32) (s_told_seen : Int32) (s_told_fitsKnown : Int32) (s_told_fitBits : Int32) (s_told_stepSpot : (Nat → Int32)) (s_told_stepWord : (Nat → Int32)) (v_told_toldAlready : Value) (v_told_memory : Value) (v_told_unsureSpot : Value) (v_told_unsureWord : Value) (v_told_seenStep : Value) (v_told_seenHit : Value) (a1 : Int32) (x : Int32 × Int32 × Int32 × Int32 × Int32 × Int32 × Int32 × Int32 × (Nat → Int32) × (Nat → Int32)) (hf : fX4_tellStep s_end s_at s_kind s_start s_value s_faultFound s_faultPlace s_text s_told_steps s_told_stepSpot s_told_stepWord a1 = some x) (l : Launch) (sz : Nat) : zM l yX4_tellStep cX4_tellStep 4 (some .boolean) { frames := 4, cells := 0, slots := 0, locals := 84 } E [.ref q_this, .int a1] [(q_this, .inr (3, [.ref q_text, .int s_end, .int s_at, .int s_kind, .int s_start, .int s_value, .ref q_told, .int s_faultFound, .int s_faultPlace])), (q_text, .inl (E.2.1 1, 1200, .inl s_text)), (q_told, .inr (1, [.int s_told_sets, .int s_told_ways, .int s_told_weighed, .int s_told_linesTold, v_told_toldAlready, v_told_memory, .int s_told_steps, .ref q_told_stepSpot, .ref q_told_stepWord, .int s_told_unsure, v_told_unsureSpot, v_told_unsureWord, .int s_told_seen, v_told_seenStep, v_told_seenHit, .int s_told_fitsKnown, .int s_told_fitBits])), (q_told_stepSpot, .inl (E.2.1 0, 16, .inl s_told_stepSpot)), (q_told_stepWord, .inl (E.2.1 0, 16, .inl s_told_stepWord))] sz (some (.int x.1)) [(q_this, .inr (3, [.ref q_text, .int s_end, .int x.2.1, .int x.2.2.1, .int x.2.2.2.1, .int x.2.2.2.2.1, .ref q_told, .int x.2.2.2.2.2.1, .int x.2.2.2.2.2.2.1])), (q_text, .inl (E.2.1 1, 1200, .inl s_text)), (q_told, .inr (1, [.int s_told_sets, .int s_told_ways, .int s_told_weighed, .int s_told_linesTold, v_told_toldAlready, v_told_memory, .int x.2.2.2.2.2.2.2.1, .ref q_told_stepSpot, .ref q_told_stepWord, .int s_told_unsure, v_told_unsureSpot, v_told_unsureWord, .int s_told_seen, v_told_seenStep, v_told_seenHit, .int s_told_fitsKnown, .int s_told_fitBits])), (q_told_stepSpot, .inl (E.2.1 0, 16, .inl x.2.2.2.2.2.2.2.2.1)), (q_told_stepWord, .inl (E.2.1 0, 16, .inl x.2.2.2.2.2.2.2.2.2))] := by
  refine zEnter (by decide) (Nat.le_of_ble_eq_true rfl) ?_
  intro C hC hR
  change zC C E cX4_tellStep "PackedCache$Teller" 4 _ at hC
  have B97 : ∀ (t0 : Int32) (t1 : Int32) (s_at : Int32) (s_kind : Int32) (s_start : Int32) (s_value : Int32) (s_faultFound : Int32) (s_faultPlace : Int32) (s_told_steps : Int32) (s_told_stepSpot : (Nat → Int32)) (s_told_stepWord : (Nat → Int32)), fX4_tellStep_97 s_end s_text  t0 t1 s_at s_kind s_start s_value s_faultFound s_faultPlace s_told_steps s_told_stepSpot s_told_stepWord = some x → J C 0 0 [(q_this, .inr (3, [.ref q_text, .int s_end, .int s_at, .int s_kind, .int s_start, .int s_value, .ref q_told, .int s_faultFound, .int s_faultPlace])), (q_text, .inl (E.2.1 1, 1200, .inl s_text)), (q_told, .inr (1, [.int s_told_sets, .int s_told_ways, .int s_told_weighed, .int s_told_linesTold, v_told_toldAlready, v_told_memory, .int s_told_steps, .ref q_told_stepSpot, .ref q_told_stepWord, .int s_told_unsure, v_told_unsureSpot, v_told_unsureWord, .int s_told_seen, v_told_seenStep, v_told_seenHit, .int s_told_fitsKnown, .int s_told_fitBits])), (q_told_stepSpot, .inl (E.2.1 0, 16, .inl s_told_stepSpot)), (q_told_stepWord, .inl (E.2.1 0, 16, .inl s_told_stepWord))] [(0, .ref q_this)] 97 [.int t0, .int t1, .ref q_told_stepWord] := by
    intro  t0 t1 s_at s_kind s_start s_value s_faultFound s_faultPlace s_told_steps s_told_stepSpot s_told_stepWord hf
    unfold fX4_tellStep_97 at hf
    refine j_iast (q := 98) hC (fun x1 => [(q_this, .inr (3, [.ref q_text, .int s_end, .int s_at, .int s_kind, .int s_start, .int s_value, .ref q_told, .int s_faultFound, .int s_faultPlace])), (q_text, .inl (E.2.1 1, 1200, .inl s_text)), (q_told, .inr (1, [.int s_told_sets, .int s_told_ways, .int s_told_weighed, .int s_told_linesTold, v_told_toldAlready, v_told_memory, .int s_told_steps, .ref q_told_stepSpot, .ref q_told_stepWord, .int s_told_unsure, v_told_unsureSpot, v_told_unsureWord, .int s_told_seen, v_told_seenStep, v_told_seenHit, .int s_told_fitsKnown, .int s_told_fitBits])), (q_told_stepSpot, .inl (E.2.1 0, 16, .inl s_told_stepSpot)), (q_told_stepWord, .inl (E.2.1 0, 16, .inl x1))]) 4 rfl (fun _ => rfl) dX4_tellStep_97 rfl hf (fun x1 hf => ?_)
    refine j_aload_n (q := 99) hC dX4_tellStep_98 rfl rfl 0 rfl ?_
    refine j_get (q := 102) hC zcl_X4 0 6 zw_135 ⟨rfl, rfl, by decide⟩ rfl rfl dX4_tellStep_99 rfl ?_
    refine j_dup (q := 103) hC dX4_tellStep_102 rfl rfl ?_
    refine j_getN (q := 106) hC zcl_X1 2 6 zn_57 ⟨rfl, rfl, by decide⟩ rfl rfl dX4_tellStep_103 rfl ?_
    refine j_iconst (q := 107) (v := 1) hC dX4_tellStep_106 rfl (by decide) ?_
    refine j_iadd (q := 108) hC dX4_tellStep_107 rfl hf (fun x2 hf => ?_)
    refine j_putN (q := 111) hC zcl_X1 2 6 (ws' := [(q_this, .inr (3, [.ref q_text, .int s_end, .int s_at, .int s_kind, .int s_start, .int s_value, .ref q_told, .int s_faultFound, .int s_faultPlace])), (q_text, .inl (E.2.1 1, 1200, .inl s_text)), (q_told, .inr (1, [.int s_told_sets, .int s_told_ways, .int s_told_weighed, .int s_told_linesTold, v_told_toldAlready, v_told_memory, .int x2, .ref q_told_stepSpot, .ref q_told_stepWord, .int s_told_unsure, v_told_unsureSpot, v_told_unsureWord, .int s_told_seen, v_told_seenStep, v_told_seenHit, .int s_told_fitsKnown, .int s_told_fitBits])), (q_told_stepSpot, .inl (E.2.1 0, 16, .inl s_told_stepSpot)), (q_told_stepWord, .inl (E.2.1 0, 16, .inl x1))]) zn_57 ⟨rfl, rfl, by decide, rfl⟩ rfl rfl rfl (Nat.le_of_ble_eq_true rfl) rfl dX4_tellStep_108 rfl ?_
    refine j_iconst (q := 112) (v := 1) hC dX4_tellStep_111 rfl (by decide) ?_
    have hx := Option.some.inj hf
    exact j_zret hC hR rfl dX4_tellStep_112 (by rw [← hx]) (by rw [← hx])
  have B55 : ∀ (b1 : Int32) (b3 : Int32) (s_at : Int32) (s_kind : Int32) (s_start : Int32) (s_value : Int32) (s_faultFound : Int32) (s_faultPlace : Int32) (s_told_steps : Int32) (s_told_stepSpot : (Nat → Int32)) (s_told_stepWord : (Nat → Int32)), fX4_tellStep_55 s_end s_text  b1 b3 s_at s_kind s_start s_value s_faultFound s_faultPlace s_told_steps s_told_stepSpot s_told_stepWord = some x → J C 0 0 [(q_this, .inr (3, [.ref q_text, .int s_end, .int s_at, .int s_kind, .int s_start, .int s_value, .ref q_told, .int s_faultFound, .int s_faultPlace])), (q_text, .inl (E.2.1 1, 1200, .inl s_text)), (q_told, .inr (1, [.int s_told_sets, .int s_told_ways, .int s_told_weighed, .int s_told_linesTold, v_told_toldAlready, v_told_memory, .int s_told_steps, .ref q_told_stepSpot, .ref q_told_stepWord, .int s_told_unsure, v_told_unsureSpot, v_told_unsureWord, .int s_told_seen, v_told_seenStep, v_told_seenHit, .int s_told_fitsKnown, .int s_told_fitBits])), (q_told_stepSpot, .inl (E.2.1 0, 16, .inl s_told_stepSpot)), (q_told_stepWord, .inl (E.2.1 0, 16, .inl s_told_stepWord))] [(0, .ref q_this), (1, .int b1), (3, .int b3)] 55 [] := by
    intro  b1 b3 s_at s_kind s_start s_value s_faultFound s_faultPlace s_told_steps s_told_stepSpot s_told_stepWord hf
    unfold fX4_tellStep_55 at hf
    refine j_aload_n (q := 56) hC dX4_tellStep_55 rfl rfl 0 rfl ?_
    refine j_get (q := 59) hC zcl_X4 0 6 zw_135 ⟨rfl, rfl, by decide⟩ rfl rfl dX4_tellStep_56 rfl ?_
    refine j_getN (q := 62) hC zcl_X1 2 7 zn_60 ⟨rfl, rfl, by decide⟩ rfl rfl dX4_tellStep_59 rfl ?_
    refine j_aload_n (q := 63) hC dX4_tellStep_62 rfl rfl 0 rfl ?_
    refine j_get (q := 66) hC zcl_X4 0 6 zw_135 ⟨rfl, rfl, by decide⟩ rfl rfl dX4_tellStep_63 rfl ?_
    refine j_getN (q := 69) hC zcl_X1 2 6 zn_57 ⟨rfl, rfl, by decide⟩ rfl rfl dX4_tellStep_66 rfl ?_
    refine j_iload_n (q := 70) hC dX4_tellStep_69 rfl rfl 2 rfl ?_
    refine j_iast (q := 71) hC (fun x1 => [(q_this, .inr (3, [.ref q_text, .int s_end, .int s_at, .int s_kind, .int s_start, .int s_value, .ref q_told, .int s_faultFound, .int s_faultPlace])), (q_text, .inl (E.2.1 1, 1200, .inl s_text)), (q_told, .inr (1, [.int s_told_sets, .int s_told_ways, .int s_told_weighed, .int s_told_linesTold, v_told_toldAlready, v_told_memory, .int s_told_steps, .ref q_told_stepSpot, .ref q_told_stepWord, .int s_told_unsure, v_told_unsureSpot, v_told_unsureWord, .int s_told_seen, v_told_seenStep, v_told_seenHit, .int s_told_fitsKnown, .int s_told_fitBits])), (q_told_stepSpot, .inl (E.2.1 0, 16, .inl x1)), (q_told_stepWord, .inl (E.2.1 0, 16, .inl s_told_stepWord))]) 3 rfl (fun _ => rfl) dX4_tellStep_70 rfl hf (fun x1 hf => ?_)
    refine j_aload_n (q := 72) hC dX4_tellStep_71 rfl rfl 0 rfl ?_
    refine j_get (q := 75) hC zcl_X4 0 6 zw_135 ⟨rfl, rfl, by decide⟩ rfl rfl dX4_tellStep_72 rfl ?_
    refine j_getN (q := 78) hC zcl_X1 2 8 zn_63 ⟨rfl, rfl, by decide⟩ rfl rfl dX4_tellStep_75 rfl ?_
    refine j_aload_n (q := 79) hC dX4_tellStep_78 rfl rfl 0 rfl ?_
    refine j_get (q := 82) hC zcl_X4 0 6 zw_135 ⟨rfl, rfl, by decide⟩ rfl rfl dX4_tellStep_79 rfl ?_
    refine j_getN (q := 85) hC zcl_X1 2 6 zn_57 ⟨rfl, rfl, by decide⟩ rfl rfl dX4_tellStep_82 rfl ?_
    refine j_iload_n (q := 86) hC dX4_tellStep_85 rfl rfl 1 rfl ?_
    refine j_if_eq (tgt := 96) (q := 89) hC dX4_tellStep_86 (by decide) rfl hf (fun _ hf => ?_) (fun _ hf => ?_)
    · refine j_iconst (q := 97) (v := (-1)) hC dX4_tellStep_96 rfl (by decide) ?_
      refine j_sub (lv' := [(0, .ref q_this)]) [0] rfl ?_
      exact B97  (-1) s_told_steps s_at s_kind s_start s_value s_faultFound s_faultPlace s_told_steps x1 s_told_stepWord hf
    · refine j_aload_n (q := 90) hC dX4_tellStep_89 rfl rfl 0 rfl ?_
      refine j_get (q := 93) hC zcl_X4 0 5 zw_134 ⟨rfl, rfl, by decide⟩ rfl rfl dX4_tellStep_90 rfl ?_
      refine j_goto (tgt := 97) hC dX4_tellStep_93 (by decide) ?_
      refine j_sub (lv' := [(0, .ref q_this)]) [0] rfl ?_
      exact B97  s_value s_told_steps s_at s_kind s_start s_value s_faultFound s_faultPlace s_told_steps x1 s_told_stepWord hf
  unfold fX4_tellStep at hf
  refine j_sub (lv' := [(0, .ref q_this), (1, .int a1)]) [0, 1] rfl ?_
  refine j_aload_n (q := 1) hC dX4_tellStep_0 rfl rfl 0 rfl ?_
  refine j_iconst (q := 2) (v := 0) hC dX4_tellStep_1 rfl (by decide) ?_
  refine j_bipush (q := 4) (v := 31) hC dX4_tellStep_2 rfl (by decide) ?_
  refine j_callV (q := 7) hC [.int 0, .int 31] [] (fun x1 : Int32 × Int32 × Int32 × Int32 × Int32 × Int32 × Int32 => some (.int x1.1)) (fun x1 => [(q_this, .inr (3, [.ref q_text, .int s_end, .int x1.2.1, .int x1.2.2.1, .int x1.2.2.2.1, .int x1.2.2.2.2.1, .ref q_told, .int x1.2.2.2.2.2.1, .int x1.2.2.2.2.2.2])), (q_text, .inl (E.2.1 1, 1200, .inl s_text))]) (fun x1 => [(q_this, .inr (3, [.ref q_text, .int s_end, .int x1.2.1, .int x1.2.2.1, .int x1.2.2.2.1, .int x1.2.2.2.2.1, .ref q_told, .int x1.2.2.2.2.2.1, .int x1.2.2.2.2.2.2])), (q_text, .inl (E.2.1 1, 1200, .inl s_text)), (q_told, .inr (1, [.int s_told_sets, .int s_told_ways, .int s_told_weighed, .int s_told_linesTold, v_told_toldAlready, v_told_memory, .int s_told_steps, .ref q_told_stepSpot, .ref q_told_stepWord, .int s_told_unsure, v_told_unsureSpot, v_told_unsureWord, .int s_told_seen, v_told_seenStep, v_told_seenHit, .int s_told_fitsKnown, .int s_told_fitBits])), (q_told_stepSpot, .inl (E.2.1 0, 16, .inl s_told_stepSpot)), (q_told_stepWord, .inl (E.2.1 0, 16, .inl s_told_stepWord))]) (fun x1 => [.int x1.1]) [0, 1] [2, 3, 4] hf (fun x1 hx => wX4_takeWithin E q_this q_text s_end s_at s_kind s_start s_value s_faultFound s_faultPlace s_text (.ref q_told) 0 31 x1  hx) zy_X4_takeWithin zw_387 (by unfold zRm; decide) rfl rfl (fun _ => rfl) (N := 5) (by decide) (fun _ => ⟨rfl, rfl, rfl⟩) rfl rfl rfl (Nat.le_of_ble_eq_true rfl) dX4_tellStep_4 rfl rfl (fun _ => rfl) (fun x1 hf => ?_)
  refine j_if_ne (tgt := 12) (q := 10) hC dX4_tellStep_7 (by decide) rfl hf (fun _ hf => ?_) (fun _ hf => ?_)
  · refine j_aload_n (q := 13) hC dX4_tellStep_12 rfl rfl 0 rfl ?_
    refine j_get (q := 16) hC zcl_X4 0 5 zw_134 ⟨rfl, rfl, by decide⟩ rfl rfl dX4_tellStep_13 rfl ?_
    refine j_istore_n (q := 17) (lv' := [(2, .int x1.2.2.2.2.1), (0, .ref q_this), (1, .int a1)]) hC dX4_tellStep_16 rfl rfl (by decide) rfl ?_
    refine j_aload_n (q := 18) hC dX4_tellStep_17 rfl rfl 1 rfl ?_
    refine j_iconst (q := 19) (v := 0) hC dX4_tellStep_18 rfl (by decide) ?_
    refine j_bipush (q := 21) (v := 7) hC dX4_tellStep_19 rfl (by decide) ?_
    refine j_callV (q := 24) hC [.int 0, .int 7] [] (fun x2 : Int32 × Int32 × Int32 × Int32 × Int32 × Int32 × Int32 => some (.int x2.1)) (fun x2 => [(q_this, .inr (3, [.ref q_text, .int s_end, .int x2.2.1, .int x2.2.2.1, .int x2.2.2.2.1, .int x2.2.2.2.2.1, .ref q_told, .int x2.2.2.2.2.2.1, .int x2.2.2.2.2.2.2])), (q_text, .inl (E.2.1 1, 1200, .inl s_text))]) (fun x2 => [(q_this, .inr (3, [.ref q_text, .int s_end, .int x2.2.1, .int x2.2.2.1, .int x2.2.2.2.1, .int x2.2.2.2.2.1, .ref q_told, .int x2.2.2.2.2.2.1, .int x2.2.2.2.2.2.2])), (q_text, .inl (E.2.1 1, 1200, .inl s_text)), (q_told, .inr (1, [.int s_told_sets, .int s_told_ways, .int s_told_weighed, .int s_told_linesTold, v_told_toldAlready, v_told_memory, .int s_told_steps, .ref q_told_stepSpot, .ref q_told_stepWord, .int s_told_unsure, v_told_unsureSpot, v_told_unsureWord, .int s_told_seen, v_told_seenStep, v_told_seenHit, .int s_told_fitsKnown, .int s_told_fitBits])), (q_told_stepSpot, .inl (E.2.1 0, 16, .inl s_told_stepSpot)), (q_told_stepWord, .inl (E.2.1 0, 16, .inl s_told_stepWord))]) (fun x2 => [.int x2.1]) [0, 1] [2, 3, 4] hf (fun x2 hx => wX4_takeWithin E q_this q_text s_end x1.2.1 x1.2.2.1 x1.2.2.2.1 x1.2.2.2.2.1 x1.2.2.2.2.2.1 x1.2.2.2.2.2.2 s_text (.ref q_told) 0 7 x2  hx) zy_X4_takeWithin zw_387 (by unfold zRm; decide) rfl rfl (fun _ => rfl) (N := 5) (by decide) (fun _ => ⟨rfl, rfl, rfl⟩) rfl rfl rfl (Nat.le_of_ble_eq_true rfl) dX4_tellStep_21 rfl rfl (fun _ => rfl) (fun x2 hf => ?_)
    refine j_if_ne (tgt := 29) (q := 27) hC dX4_tellStep_24 (by decide) rfl hf (fun _ hf => ?_) (fun _ hf => ?_)
    · refine j_iload_n (q := 30) hC dX4_tellStep_29 rfl rfl 0 rfl ?_
      refine j_bipush (q := 32) (v := 8) hC dX4_tellStep_30 rfl (by decide) ?_
      refine j_imul (q := 33) hC dX4_tellStep_32 rfl hf (fun x3 hf => ?_)
      refine j_aload_n (q := 34) hC dX4_tellStep_33 rfl rfl 1 rfl ?_
      refine j_get (q := 37) hC zcl_X4 0 5 zw_134 ⟨rfl, rfl, by decide⟩ rfl rfl dX4_tellStep_34 rfl ?_
      refine j_iadd (q := 38) hC dX4_tellStep_37 rfl hf (fun x4 hf => ?_)
      refine j_istore_n (q := 39) (lv' := [(3, .int x4), (2, .int x1.2.2.2.2.1), (0, .ref q_this), (1, .int a1)]) hC dX4_tellStep_38 rfl rfl (by decide) rfl ?_
      refine j_iload_n (q := 40) hC dX4_tellStep_39 rfl rfl 3 rfl ?_
      refine j_if_eq (tgt := 55) (q := 43) hC dX4_tellStep_40 (by decide) rfl hf (fun _ hf => ?_) (fun _ hf => ?_)
      · refine j_sub (lv' := [(0, .ref q_this), (1, .int a1), (3, .int x4)]) [2, 3, 0] rfl ?_
        exact B55  a1 x4 x2.2.1 x2.2.2.1 x2.2.2.2.1 x2.2.2.2.2.1 x2.2.2.2.2.2.1 x2.2.2.2.2.2.2 s_told_steps s_told_stepSpot s_told_stepWord hf
      · refine j_aload_n (q := 44) hC dX4_tellStep_43 rfl rfl 2 rfl ?_
        refine j_iconst (q := 45) (v := 0) hC dX4_tellStep_44 rfl (by decide) ?_
        refine j_ldc (q := 47) hC (v := 65535) dX4_tellStep_45 rfl zw_407 ?_
        refine j_callV (q := 50) hC [.int 0, .int 65535] [] (fun x5 : Int32 × Int32 × Int32 × Int32 × Int32 × Int32 × Int32 => some (.int x5.1)) (fun x5 => [(q_this, .inr (3, [.ref q_text, .int s_end, .int x5.2.1, .int x5.2.2.1, .int x5.2.2.2.1, .int x5.2.2.2.2.1, .ref q_told, .int x5.2.2.2.2.2.1, .int x5.2.2.2.2.2.2])), (q_text, .inl (E.2.1 1, 1200, .inl s_text))]) (fun x5 => [(q_this, .inr (3, [.ref q_text, .int s_end, .int x5.2.1, .int x5.2.2.1, .int x5.2.2.2.1, .int x5.2.2.2.2.1, .ref q_told, .int x5.2.2.2.2.2.1, .int x5.2.2.2.2.2.2])), (q_text, .inl (E.2.1 1, 1200, .inl s_text)), (q_told, .inr (1, [.int s_told_sets, .int s_told_ways, .int s_told_weighed, .int s_told_linesTold, v_told_toldAlready, v_told_memory, .int s_told_steps, .ref q_told_stepSpot, .ref q_told_stepWord, .int s_told_unsure, v_told_unsureSpot, v_told_unsureWord, .int s_told_seen, v_told_seenStep, v_told_seenHit, .int s_told_fitsKnown, .int s_told_fitBits])), (q_told_stepSpot, .inl (E.2.1 0, 16, .inl s_told_stepSpot)), (q_told_stepWord, .inl (E.2.1 0, 16, .inl s_told_stepWord))]) (fun x5 => [.int x5.1]) [0, 1] [2, 3, 4] hf (fun x5 hx => wX4_takeWithin E q_this q_text s_end x2.2.1 x2.2.2.1 x2.2.2.2.1 x2.2.2.2.2.1 x2.2.2.2.2.2.1 x2.2.2.2.2.2.2 s_text (.ref q_told) 0 65535 x5  hx) zy_X4_takeWithin zw_387 (by unfold zRm; decide) rfl rfl (fun _ => rfl) (N := 5) (by decide) (fun _ => ⟨rfl, rfl, rfl⟩) rfl rfl rfl (Nat.le_of_ble_eq_true rfl) dX4_tellStep_47 rfl rfl (fun _ => rfl) (fun x5 hf => ?_)
        refine j_if_ne (tgt := 55) (q := 53) hC dX4_tellStep_50 (by decide) rfl hf (fun _ hf => ?_) (fun _ hf => ?_)
        · refine j_sub (lv' := [(0, .ref q_this), (1, .int a1), (3, .int x4)]) [2, 3, 0] rfl ?_
          exact B55  a1 x4 x5.2.1 x5.2.2.1 x5.2.2.2.1 x5.2.2.2.2.1 x5.2.2.2.2.2.1 x5.2.2.2.2.2.2 s_told_steps s_told_stepSpot s_told_stepWord hf
        · refine j_iconst (q := 54) (v := 0) hC dX4_tellStep_53 rfl (by decide) ?_
          have hx := Option.some.inj hf
          exact j_zret hC hR rfl dX4_tellStep_54 (by rw [← hx]) (by rw [← hx])
    · refine j_iconst (q := 28) (v := 0) hC dX4_tellStep_27 rfl (by decide) ?_
      have hx := Option.some.inj hf
      exact j_zret hC hR rfl dX4_tellStep_28 (by rw [← hx]) (by rw [← hx])
  · refine j_iconst (q := 11) (v := 0) hC dX4_tellStep_10 rfl (by decide) ?_
    have hx := Option.some.inj hf
    exact j_zret hC hR rfl dX4_tellStep_11 (by rw [← hx]) (by rw [← hx])
noncomputable def fX4_tellWords_38 (s_end : Int32) (s_text : (Nat → Int32))  : Nat → Int32 → Int32 → Int32 → Int32 → Int32 → Int32 → Int32 → Int32 → Int32 → (Nat → Int32) → (Nat → Int32) → Option (Int32 × Int32 × Int32 × Int32 × Int32 × Int32 × Int32 × Int32 × (Nat → Int32) × (Nat → Int32))
  | 0, _, _, _, _, _, _, _, _, _, _, _ => none
  | m + 1, b1, b2, s_at, s_kind, s_start, s_value, s_faultFound, s_faultPlace, s_told_linesTold, s_told_memory, s_told_toldAlready =>
    if 8 ≤ b2 then (zast s_told_toldAlready 32 b1 1 fun x1 =>
    zlet (s_told_linesTold + 1 : Int32) fun x2 =>
    some (1, s_at, s_kind, s_start, s_value, s_faultFound, s_faultPlace, x2, s_told_memory, x1))
    else ((fX4_takeWithin s_end s_at s_kind s_start s_value s_faultFound s_faultPlace s_text 0 65535).bind fun x3 =>
    if x3.1 = 0 then (some (0, x3.2.1, x3.2.2.1, x3.2.2.2.1, x3.2.2.2.2.1, x3.2.2.2.2.2.1, x3.2.2.2.2.2.2, s_told_linesTold, s_told_memory, s_told_toldAlready))
    else (zlet (b1 * 8 : Int32) fun x4 =>
    zlet (x4 + b2 : Int32) fun x5 =>
    zast s_told_memory 256 x5 x3.2.2.2.2.1 fun x6 =>
    zlet (b2 + 1) fun x7 =>
    fX4_tellWords_38 s_end s_text  m b1 x7 x3.2.1 x3.2.2.1 x3.2.2.2.1 x3.2.2.2.2.1 x3.2.2.2.2.2.1 x3.2.2.2.2.2.2 s_told_linesTold x6 s_told_toldAlready))
noncomputable def fX4_tellWords (s_end : Int32) (s_at : Int32) (s_kind : Int32) (s_start : Int32) (s_value : Int32) (s_faultFound : Int32) (s_faultPlace : Int32) (s_text : (Nat → Int32)) (s_told_linesTold : Int32) (s_told_memory : (Nat → Int32)) (s_told_toldAlready : (Nat → Int32)) : Option (Int32 × Int32 × Int32 × Int32 × Int32 × Int32 × Int32 × Int32 × (Nat → Int32) × (Nat → Int32)) :=
  (fX4_takeWithin s_end s_at s_kind s_start s_value s_faultFound s_faultPlace s_text 0 31).bind fun x1 =>
    if x1.1 = 0 then (some (0, x1.2.1, x1.2.2.1, x1.2.2.2.1, x1.2.2.2.2.1, x1.2.2.2.2.2.1, x1.2.2.2.2.2.2, s_told_linesTold, s_told_memory, s_told_toldAlready))
    else (zald s_told_toldAlready 32 x1.2.2.2.2.1 fun x2 =>
    if x2 = 1 then ((fX4_fail x1.2.2.2.1 x1.2.2.2.2.2.1 x1.2.2.2.2.2.2 3).bind fun x3 =>
    zbl x3.1 (some (x3.1, x1.2.1, x1.2.2.1, x1.2.2.2.1, x1.2.2.2.2.1, x3.2.1, x3.2.2, s_told_linesTold, s_told_memory, s_told_toldAlready)))
    else (fX4_tellWords_38 s_end s_text  zF x1.2.2.2.2.1 0 x1.2.1 x1.2.2.1 x1.2.2.2.1 x1.2.2.2.2.1 x1.2.2.2.2.2.1 x1.2.2.2.2.2.2 s_told_linesTold s_told_memory s_told_toldAlready))
set_option maxHeartbeats 4000000 in
set_option maxRecDepth 100000 in
theorem wX4_tellWords (E : zE) (q_this : Nat) (q_text : Nat) (q_told : Nat) (q_told_memory : Nat) (q_told_toldAlready : Nat) (s_end : Int32) (s_at : Int32) (s_kind : Int32) (s_start : Int32) (s_value : Int32) (s_faultFound : Int32) (s_faultPlace : Int32) (s_text : (Nat → Int32)) (s_told_sets : Int32) (s_told_ways : Int32) (s_told_weighed : Int32) (s_told_linesTold : Int32) (s_told_steps : Int32) (s_told_unsure : Int32) (s_told_seen : Int32) (s_told_fitsKnown : Int32) (s_told_fitBits : Int32) (s_told_memory : (Nat → Int32)) (s_told_toldAlready : (Nat → Int32)) (v_told_stepSpot : Value) (v_told_stepWord : Value) (v_told_unsureSpot : Value) (v_told_unsureWord : Value) (v_told_seenStep : Value) (v_told_seenHit : Value) (x : Int32 × Int32 × Int32 × Int32 × Int32 × Int32 × Int32 × Int32 × (Nat → Int32) × (Nat → Int32)) (hf : fX4_tellWords s_end s_at s_kind s_start s_value s_faultFound s_faultPlace s_text s_told_linesTold s_told_memory s_told_toldAlready = some x) (l : Launch) (sz : Nat) : zM l yX4_tellWords cX4_tellWords 3 (some .boolean) { frames := 4, cells := 0, slots := 0, locals := 84 } E [.ref q_this] [(q_this, .inr (3, [.ref q_text, .int s_end, .int s_at, .int s_kind, .int s_start, .int s_value, .ref q_told, .int s_faultFound, .int s_faultPlace])), (q_text, .inl (E.2.1 1, 1200, .inl s_text)), (q_told, .inr (1, [.int s_told_sets, .int s_told_ways, .int s_told_weighed, .int s_told_linesTold, .ref q_told_toldAlready, .ref q_told_memory, .int s_told_steps, v_told_stepSpot, v_told_stepWord, .int s_told_unsure, v_told_unsureSpot, v_told_unsureWord, .int s_told_seen, v_told_seenStep, v_told_seenHit, .int s_told_fitsKnown, .int s_told_fitBits])), (q_told_memory, .inl (E.2.1 0, 256, .inl s_told_memory)), (q_told_toldAlready, .inl (E.2.1 0, 32, .inl s_told_toldAlready))] sz (some (.int x.1)) [(q_this, .inr (3, [.ref q_text, .int s_end, .int x.2.1, .int x.2.2.1, .int x.2.2.2.1, .int x.2.2.2.2.1, .ref q_told, .int x.2.2.2.2.2.1, .int x.2.2.2.2.2.2.1])), (q_text, .inl (E.2.1 1, 1200, .inl s_text)), (q_told, .inr (1, [.int s_told_sets, .int s_told_ways, .int s_told_weighed, .int x.2.2.2.2.2.2.2.1, .ref q_told_toldAlready, .ref q_told_memory, .int s_told_steps, v_told_stepSpot, v_told_stepWord, .int s_told_unsure, v_told_unsureSpot, v_told_unsureWord, .int s_told_seen, v_told_seenStep, v_told_seenHit, .int s_told_fitsKnown, .int s_told_fitBits])), (q_told_memory, .inl (E.2.1 0, 256, .inl x.2.2.2.2.2.2.2.2.1)), (q_told_toldAlready, .inl (E.2.1 0, 32, .inl x.2.2.2.2.2.2.2.2.2))] := by
  refine zEnter (by decide) (Nat.le_of_ble_eq_true rfl) ?_
  intro C hC hR
  change zC C E cX4_tellWords "PackedCache$Teller" 3 _ at hC
  have B38 : ∀ (N : Nat), ∀ (b1 : Int32) (b2 : Int32) (s_at : Int32) (s_kind : Int32) (s_start : Int32) (s_value : Int32) (s_faultFound : Int32) (s_faultPlace : Int32) (s_told_linesTold : Int32) (s_told_memory : (Nat → Int32)) (s_told_toldAlready : (Nat → Int32)), fX4_tellWords_38 s_end s_text  N b1 b2 s_at s_kind s_start s_value s_faultFound s_faultPlace s_told_linesTold s_told_memory s_told_toldAlready = some x → J C 0 0 [(q_this, .inr (3, [.ref q_text, .int s_end, .int s_at, .int s_kind, .int s_start, .int s_value, .ref q_told, .int s_faultFound, .int s_faultPlace])), (q_text, .inl (E.2.1 1, 1200, .inl s_text)), (q_told, .inr (1, [.int s_told_sets, .int s_told_ways, .int s_told_weighed, .int s_told_linesTold, .ref q_told_toldAlready, .ref q_told_memory, .int s_told_steps, v_told_stepSpot, v_told_stepWord, .int s_told_unsure, v_told_unsureSpot, v_told_unsureWord, .int s_told_seen, v_told_seenStep, v_told_seenHit, .int s_told_fitsKnown, .int s_told_fitBits])), (q_told_memory, .inl (E.2.1 0, 256, .inl s_told_memory)), (q_told_toldAlready, .inl (E.2.1 0, 32, .inl s_told_toldAlready))] [(0, .ref q_this), (1, .int b1), (2, .int b2)] 38 [] := by
    intro  N
    induction N with
    | zero =>
      intro b1 b2 s_at s_kind s_start s_value s_faultFound s_faultPlace s_told_linesTold s_told_memory s_told_toldAlready hf
      rw [fX4_tellWords_38] at hf
      cases hf
    | succ m ih =>
      intro b1 b2 s_at s_kind s_start s_value s_faultFound s_faultPlace s_told_linesTold s_told_memory s_told_toldAlready hf
      rw [fX4_tellWords_38] at hf
      refine j_iload_n (q := 39) hC dX4_tellWords_38 rfl rfl 2 rfl ?_
      refine j_bipush (q := 41) (v := 8) hC dX4_tellWords_39 rfl (by decide) ?_
      refine j_icmp_ge (tgt := 80) (q := 44) hC dX4_tellWords_41 (by decide) rfl hf (fun _ hf => ?_) (fun _ hf => ?_)
      · refine j_aload_n (q := 81) hC dX4_tellWords_80 rfl rfl 0 rfl ?_
        refine j_get (q := 84) hC zcl_X4 0 6 zw_135 ⟨rfl, rfl, by decide⟩ rfl rfl dX4_tellWords_81 rfl ?_
        refine j_getN (q := 87) hC zcl_X1 2 4 zn_50 ⟨rfl, rfl, by decide⟩ rfl rfl dX4_tellWords_84 rfl ?_
        refine j_iload_n (q := 88) hC dX4_tellWords_87 rfl rfl 1 rfl ?_
        refine j_iconst (q := 89) (v := 1) hC dX4_tellWords_88 rfl (by decide) ?_
        refine j_iast (q := 90) hC (fun x1 => [(q_this, .inr (3, [.ref q_text, .int s_end, .int s_at, .int s_kind, .int s_start, .int s_value, .ref q_told, .int s_faultFound, .int s_faultPlace])), (q_text, .inl (E.2.1 1, 1200, .inl s_text)), (q_told, .inr (1, [.int s_told_sets, .int s_told_ways, .int s_told_weighed, .int s_told_linesTold, .ref q_told_toldAlready, .ref q_told_memory, .int s_told_steps, v_told_stepSpot, v_told_stepWord, .int s_told_unsure, v_told_unsureSpot, v_told_unsureWord, .int s_told_seen, v_told_seenStep, v_told_seenHit, .int s_told_fitsKnown, .int s_told_fitBits])), (q_told_memory, .inl (E.2.1 0, 256, .inl s_told_memory)), (q_told_toldAlready, .inl (E.2.1 0, 32, .inl x1))]) 4 rfl (fun _ => rfl) dX4_tellWords_89 rfl hf (fun x1 hf => ?_)
        refine j_aload_n (q := 91) hC dX4_tellWords_90 rfl rfl 0 rfl ?_
        refine j_get (q := 94) hC zcl_X4 0 6 zw_135 ⟨rfl, rfl, by decide⟩ rfl rfl dX4_tellWords_91 rfl ?_
        refine j_dup (q := 95) hC dX4_tellWords_94 rfl rfl ?_
        refine j_getN (q := 98) hC zcl_X1 2 3 zn_47 ⟨rfl, rfl, by decide⟩ rfl rfl dX4_tellWords_95 rfl ?_
        refine j_iconst (q := 99) (v := 1) hC dX4_tellWords_98 rfl (by decide) ?_
        refine j_iadd (q := 100) hC dX4_tellWords_99 rfl hf (fun x2 hf => ?_)
        refine j_putN (q := 103) hC zcl_X1 2 3 (ws' := [(q_this, .inr (3, [.ref q_text, .int s_end, .int s_at, .int s_kind, .int s_start, .int s_value, .ref q_told, .int s_faultFound, .int s_faultPlace])), (q_text, .inl (E.2.1 1, 1200, .inl s_text)), (q_told, .inr (1, [.int s_told_sets, .int s_told_ways, .int s_told_weighed, .int x2, .ref q_told_toldAlready, .ref q_told_memory, .int s_told_steps, v_told_stepSpot, v_told_stepWord, .int s_told_unsure, v_told_unsureSpot, v_told_unsureWord, .int s_told_seen, v_told_seenStep, v_told_seenHit, .int s_told_fitsKnown, .int s_told_fitBits])), (q_told_memory, .inl (E.2.1 0, 256, .inl s_told_memory)), (q_told_toldAlready, .inl (E.2.1 0, 32, .inl x1))]) zn_47 ⟨rfl, rfl, by decide, rfl⟩ rfl rfl rfl (Nat.le_of_ble_eq_true rfl) rfl dX4_tellWords_100 rfl ?_
        refine j_iconst (q := 104) (v := 1) hC dX4_tellWords_103 rfl (by decide) ?_
        have hx := Option.some.inj hf
        exact j_zret hC hR rfl dX4_tellWords_104 (by rw [← hx]) (by rw [← hx])
      · refine j_aload_n (q := 45) hC dX4_tellWords_44 rfl rfl 0 rfl ?_
        refine j_iconst (q := 46) (v := 0) hC dX4_tellWords_45 rfl (by decide) ?_
        refine j_ldc (q := 48) hC (v := 65535) dX4_tellWords_46 rfl zw_407 ?_
        refine j_callV (q := 51) hC [.int 0, .int 65535] [] (fun x3 : Int32 × Int32 × Int32 × Int32 × Int32 × Int32 × Int32 => some (.int x3.1)) (fun x3 => [(q_this, .inr (3, [.ref q_text, .int s_end, .int x3.2.1, .int x3.2.2.1, .int x3.2.2.2.1, .int x3.2.2.2.2.1, .ref q_told, .int x3.2.2.2.2.2.1, .int x3.2.2.2.2.2.2])), (q_text, .inl (E.2.1 1, 1200, .inl s_text))]) (fun x3 => [(q_this, .inr (3, [.ref q_text, .int s_end, .int x3.2.1, .int x3.2.2.1, .int x3.2.2.2.1, .int x3.2.2.2.2.1, .ref q_told, .int x3.2.2.2.2.2.1, .int x3.2.2.2.2.2.2])), (q_text, .inl (E.2.1 1, 1200, .inl s_text)), (q_told, .inr (1, [.int s_told_sets, .int s_told_ways, .int s_told_weighed, .int s_told_linesTold, .ref q_told_toldAlready, .ref q_told_memory, .int s_told_steps, v_told_stepSpot, v_told_stepWord, .int s_told_unsure, v_told_unsureSpot, v_told_unsureWord, .int s_told_seen, v_told_seenStep, v_told_seenHit, .int s_told_fitsKnown, .int s_told_fitBits])), (q_told_memory, .inl (E.2.1 0, 256, .inl s_told_memory)), (q_told_toldAlready, .inl (E.2.1 0, 32, .inl s_told_toldAlready))]) (fun x3 => [.int x3.1]) [0, 1] [2, 3, 4] hf (fun x3 hx => wX4_takeWithin E q_this q_text s_end s_at s_kind s_start s_value s_faultFound s_faultPlace s_text (.ref q_told) 0 65535 x3  hx) zy_X4_takeWithin zw_387 (by unfold zRm; decide) rfl rfl (fun _ => rfl) (N := 5) (by decide) (fun _ => ⟨rfl, rfl, rfl⟩) rfl rfl rfl (Nat.le_of_ble_eq_true rfl) dX4_tellWords_48 rfl rfl (fun _ => rfl) (fun x3 hf => ?_)
        refine j_if_ne (tgt := 56) (q := 54) hC dX4_tellWords_51 (by decide) rfl hf (fun _ hf => ?_) (fun _ hf => ?_)
        · refine j_aload_n (q := 57) hC dX4_tellWords_56 rfl rfl 0 rfl ?_
          refine j_get (q := 60) hC zcl_X4 0 6 zw_135 ⟨rfl, rfl, by decide⟩ rfl rfl dX4_tellWords_57 rfl ?_
          refine j_getN (q := 63) hC zcl_X1 2 5 zn_53 ⟨rfl, rfl, by decide⟩ rfl rfl dX4_tellWords_60 rfl ?_
          refine j_iload_n (q := 64) hC dX4_tellWords_63 rfl rfl 1 rfl ?_
          refine j_bipush (q := 66) (v := 8) hC dX4_tellWords_64 rfl (by decide) ?_
          refine j_imul (q := 67) hC dX4_tellWords_66 rfl hf (fun x4 hf => ?_)
          refine j_iload_n (q := 68) hC dX4_tellWords_67 rfl rfl 2 rfl ?_
          refine j_iadd (q := 69) hC dX4_tellWords_68 rfl hf (fun x5 hf => ?_)
          refine j_aload_n (q := 70) hC dX4_tellWords_69 rfl rfl 0 rfl ?_
          refine j_get (q := 73) hC zcl_X4 0 5 zw_134 ⟨rfl, rfl, by decide⟩ rfl rfl dX4_tellWords_70 rfl ?_
          refine j_iast (q := 74) hC (fun x6 => [(q_this, .inr (3, [.ref q_text, .int s_end, .int x3.2.1, .int x3.2.2.1, .int x3.2.2.2.1, .int x3.2.2.2.2.1, .ref q_told, .int x3.2.2.2.2.2.1, .int x3.2.2.2.2.2.2])), (q_text, .inl (E.2.1 1, 1200, .inl s_text)), (q_told, .inr (1, [.int s_told_sets, .int s_told_ways, .int s_told_weighed, .int s_told_linesTold, .ref q_told_toldAlready, .ref q_told_memory, .int s_told_steps, v_told_stepSpot, v_told_stepWord, .int s_told_unsure, v_told_unsureSpot, v_told_unsureWord, .int s_told_seen, v_told_seenStep, v_told_seenHit, .int s_told_fitsKnown, .int s_told_fitBits])), (q_told_memory, .inl (E.2.1 0, 256, .inl x6)), (q_told_toldAlready, .inl (E.2.1 0, 32, .inl s_told_toldAlready))]) 3 rfl (fun _ => rfl) dX4_tellWords_73 rfl hf (fun x6 hf => ?_)
          refine j_iinc (q := 77) (v := 1) hC (fun x7 => [(2, .int x7), (0, .ref q_this), (1, .int b1)]) dX4_tellWords_74 rfl 2 rfl (by decide) (by decide) (fun _ => rfl) hf (fun x7 hf => ?_)
          refine j_goto (tgt := 38) hC dX4_tellWords_77 (by decide) ?_
          refine j_sub (lv' := [(0, .ref q_this), (1, .int b1), (2, .int x7)]) [1, 2, 0] rfl ?_
          exact ih b1 x7 x3.2.1 x3.2.2.1 x3.2.2.2.1 x3.2.2.2.2.1 x3.2.2.2.2.2.1 x3.2.2.2.2.2.2 s_told_linesTold x6 s_told_toldAlready hf
        · refine j_iconst (q := 55) (v := 0) hC dX4_tellWords_54 rfl (by decide) ?_
          have hx := Option.some.inj hf
          exact j_zret hC hR rfl dX4_tellWords_55 (by rw [← hx]) (by rw [← hx])
  unfold fX4_tellWords at hf
  refine j_sub (lv' := [(0, .ref q_this)]) [0] rfl ?_
  refine j_aload_n (q := 1) hC dX4_tellWords_0 rfl rfl 0 rfl ?_
  refine j_iconst (q := 2) (v := 0) hC dX4_tellWords_1 rfl (by decide) ?_
  refine j_bipush (q := 4) (v := 31) hC dX4_tellWords_2 rfl (by decide) ?_
  refine j_callV (q := 7) hC [.int 0, .int 31] [] (fun x1 : Int32 × Int32 × Int32 × Int32 × Int32 × Int32 × Int32 => some (.int x1.1)) (fun x1 => [(q_this, .inr (3, [.ref q_text, .int s_end, .int x1.2.1, .int x1.2.2.1, .int x1.2.2.2.1, .int x1.2.2.2.2.1, .ref q_told, .int x1.2.2.2.2.2.1, .int x1.2.2.2.2.2.2])), (q_text, .inl (E.2.1 1, 1200, .inl s_text))]) (fun x1 => [(q_this, .inr (3, [.ref q_text, .int s_end, .int x1.2.1, .int x1.2.2.1, .int x1.2.2.2.1, .int x1.2.2.2.2.1, .ref q_told, .int x1.2.2.2.2.2.1, .int x1.2.2.2.2.2.2])), (q_text, .inl (E.2.1 1, 1200, .inl s_text)), (q_told, .inr (1, [.int s_told_sets, .int s_told_ways, .int s_told_weighed, .int s_told_linesTold, .ref q_told_toldAlready, .ref q_told_memory, .int s_told_steps, v_told_stepSpot, v_told_stepWord, .int s_told_unsure, v_told_unsureSpot, v_told_unsureWord, .int s_told_seen, v_told_seenStep, v_told_seenHit, .int s_told_fitsKnown, .int s_told_fitBits])), (q_told_memory, .inl (E.2.1 0, 256, .inl s_told_memory)), (q_told_toldAlready, .inl (E.2.1 0, 32, .inl s_told_toldAlready))]) (fun x1 => [.int x1.1]) [0, 1] [2, 3, 4] hf (fun x1 hx => wX4_takeWithin E q_this q_text s_end s_at s_kind s_start s_value s_faultFound s_faultPlace s_text (.ref q_told) 0 31 x1  hx) zy_X4_takeWithin zw_387 (by unfold zRm; decide) rfl rfl (fun _ => rfl) (N := 5) (by decide) (fun _ => ⟨rfl, rfl, rfl⟩) rfl rfl rfl (Nat.le_of_ble_eq_true rfl) dX4_tellWords_4 rfl rfl (fun _ => rfl) (fun x1 hf => ?_)
  refine j_if_ne (tgt := 12) (q := 10) hC dX4_tellWords_7 (by decide) rfl hf (fun _ hf => ?_) (fun _ hf => ?_)
  · refine j_aload_n (q := 13) hC dX4_tellWords_12 rfl rfl 0 rfl ?_
    refine j_get (q := 16) hC zcl_X4 0 5 zw_134 ⟨rfl, rfl, by decide⟩ rfl rfl dX4_tellWords_13 rfl ?_
    refine j_istore_n (q := 17) (lv' := [(1, .int x1.2.2.2.2.1), (0, .ref q_this)]) hC dX4_tellWords_16 rfl rfl (by decide) rfl ?_
    refine j_aload_n (q := 18) hC dX4_tellWords_17 rfl rfl 1 rfl ?_
    refine j_get (q := 21) hC zcl_X4 0 6 zw_135 ⟨rfl, rfl, by decide⟩ rfl rfl dX4_tellWords_18 rfl ?_
    refine j_getN (q := 24) hC zcl_X1 2 4 zn_50 ⟨rfl, rfl, by decide⟩ rfl rfl dX4_tellWords_21 rfl ?_
    refine j_iload_n (q := 25) hC dX4_tellWords_24 rfl rfl 0 rfl ?_
    refine j_iald (q := 26) hC 4 rfl dX4_tellWords_25 rfl hf (fun x2 hf => ?_)
    refine j_iconst (q := 27) (v := 1) hC dX4_tellWords_26 rfl (by decide) ?_
    refine j_icmp_ne (tgt := 36) (q := 30) hC dX4_tellWords_27 (by decide) rfl hf (fun _ hf => ?_) (fun _ hf => ?_)
    · refine j_iconst (q := 37) (v := 0) hC dX4_tellWords_36 rfl (by decide) ?_
      refine j_istore_n (q := 38) (lv' := [(2, .int 0), (1, .int x1.2.2.2.2.1), (0, .ref q_this)]) hC dX4_tellWords_37 rfl rfl (by decide) rfl ?_
      refine j_sub (lv' := [(0, .ref q_this), (1, .int x1.2.2.2.2.1), (2, .int 0)]) [2, 1, 0] rfl ?_
      exact B38  zF x1.2.2.2.2.1 0 x1.2.1 x1.2.2.1 x1.2.2.2.1 x1.2.2.2.2.1 x1.2.2.2.2.2.1 x1.2.2.2.2.2.2 s_told_linesTold s_told_memory s_told_toldAlready hf
    · refine j_aload_n (q := 31) hC dX4_tellWords_30 rfl rfl 1 rfl ?_
      refine j_iconst (q := 32) (v := 3) hC dX4_tellWords_31 rfl (by decide) ?_
      refine j_callV (q := 35) hC [.int 3] [] (fun x3 : Int32 × Int32 × Int32 => some (.int x3.1)) (fun x3 => [(q_this, .inr (3, [.ref q_text, .int s_end, .int x1.2.1, .int x1.2.2.1, .int x1.2.2.2.1, .int x1.2.2.2.2.1, .ref q_told, .int x3.2.1, .int x3.2.2]))]) (fun x3 => [(q_this, .inr (3, [.ref q_text, .int s_end, .int x1.2.1, .int x1.2.2.1, .int x1.2.2.2.1, .int x1.2.2.2.2.1, .ref q_told, .int x3.2.1, .int x3.2.2])), (q_text, .inl (E.2.1 1, 1200, .inl s_text)), (q_told, .inr (1, [.int s_told_sets, .int s_told_ways, .int s_told_weighed, .int s_told_linesTold, .ref q_told_toldAlready, .ref q_told_memory, .int s_told_steps, v_told_stepSpot, v_told_stepWord, .int s_told_unsure, v_told_unsureSpot, v_told_unsureWord, .int s_told_seen, v_told_seenStep, v_told_seenHit, .int s_told_fitsKnown, .int s_told_fitBits])), (q_told_memory, .inl (E.2.1 0, 256, .inl s_told_memory)), (q_told_toldAlready, .inl (E.2.1 0, 32, .inl s_told_toldAlready))]) (fun x3 => [.int x3.1]) [0] [1, 2, 3, 4] hf (fun x3 hx => wX4_fail E q_this s_end x1.2.1 x1.2.2.1 x1.2.2.2.1 x1.2.2.2.2.1 x1.2.2.2.2.2.1 x1.2.2.2.2.2.2 (.ref q_text) (.ref q_told) 3 x3  hx) zy_X4_fail zw_374 (by unfold zRm; decide) rfl rfl (fun _ => rfl) (N := 5) (by decide) (fun _ => ⟨rfl, rfl, rfl⟩) rfl rfl rfl (Nat.le_of_ble_eq_true rfl) dX4_tellWords_32 rfl rfl (fun _ => rfl) (fun x3 hf => ?_)
      obtain ⟨hz, hf⟩ := zbl_s hf
      have hx := Option.some.inj hf
      exact j_zret hC hR (zbl_n hz) dX4_tellWords_35 (by rw [← hx]) (by rw [← hx])
  · refine j_iconst (q := 11) (v := 0) hC dX4_tellWords_10 rfl (by decide) ?_
    have hx := Option.some.inj hf
    exact j_zret hC hR rfl dX4_tellWords_11 (by rw [← hx]) (by rw [← hx])
noncomputable def fX4_takeName (j1 : Nat) (s_end : Int32) (s_at : Int32) (s_kind : Int32) (s_start : Int32) (s_value : Int32) (s_faultFound : Int32) (s_faultPlace : Int32) (s_text : (Nat → Int32)) : Option (Int32 × Int32 × Int32 × Int32 × Int32 × Int32 × Int32) :=
  (fX4_takeToken s_end s_at s_kind s_start s_value s_text).bind fun x1 =>
    (fX4_isName j1 x1.1 x1.2.1 x1.2.2.1 s_text).bind fun x2 =>
    if x2 = 0 then ((fX4_fail x1.2.2.1 s_faultFound s_faultPlace 1).bind fun x3 =>
    if x3.1 = 0 then (some (0, x1.1, x1.2.1, x1.2.2.1, x1.2.2.2, x3.2.1, x3.2.2))
    else (some (1, x1.1, x1.2.1, x1.2.2.1, x1.2.2.2, x3.2.1, x3.2.2)))
    else (some (1, x1.1, x1.2.1, x1.2.2.1, x1.2.2.2, s_faultFound, s_faultPlace))
set_option maxHeartbeats 4000000 in
set_option maxRecDepth 100000 in
theorem wX4_takeName (E : zE) (q_this : Nat) (q_text : Nat) (s_end : Int32) (s_at : Int32) (s_kind : Int32) (s_start : Int32) (s_value : Int32) (s_faultFound : Int32) (s_faultPlace : Int32) (s_text : (Nat → Int32)) (v_told : Value) (j1 : Nat) (x : Int32 × Int32 × Int32 × Int32 × Int32 × Int32 × Int32) (hj1 : j1 < 25) (hf : fX4_takeName j1 s_end s_at s_kind s_start s_value s_faultFound s_faultPlace s_text = some x) (l : Launch) (sz : Nat) : zM l yX4_takeName cX4_takeName 2 (some .boolean) { frames := 5, cells := 0, slots := 0, locals := 107 } E [.ref q_this, .ref (E.2.2.2.1 j1)] [(q_this, .inr (3, [.ref q_text, .int s_end, .int s_at, .int s_kind, .int s_start, .int s_value, v_told, .int s_faultFound, .int s_faultPlace])), (q_text, .inl (E.2.1 1, 1200, .inl s_text))] sz (some (.int x.1)) [(q_this, .inr (3, [.ref q_text, .int s_end, .int x.2.1, .int x.2.2.1, .int x.2.2.2.1, .int x.2.2.2.2.1, v_told, .int x.2.2.2.2.2.1, .int x.2.2.2.2.2.2])), (q_text, .inl (E.2.1 1, 1200, .inl s_text))] := by
  refine zEnter (by decide) (Nat.le_of_ble_eq_true rfl) ?_
  intro C hC hR
  change zC C E cX4_takeName "PackedCache$Teller" 2 _ at hC
  unfold fX4_takeName at hf
  refine j_sub (lv' := [(0, .ref q_this), (1, .ref (E.2.2.2.1 j1))]) [0, 1] rfl ?_
  refine j_aload_n (q := 1) hC dX4_takeName_0 rfl rfl 0 rfl ?_
  refine j_callV (q := 4) hC [] [] (fun x1 : Int32 × Int32 × Int32 × Int32 => none) (fun x1 => [(q_this, .inr (3, [.ref q_text, .int s_end, .int x1.1, .int x1.2.1, .int x1.2.2.1, .int x1.2.2.2, v_told, .int s_faultFound, .int s_faultPlace])), (q_text, .inl (E.2.1 1, 1200, .inl s_text))]) (fun x1 => [(q_this, .inr (3, [.ref q_text, .int s_end, .int x1.1, .int x1.2.1, .int x1.2.2.1, .int x1.2.2.2, v_told, .int s_faultFound, .int s_faultPlace])), (q_text, .inl (E.2.1 1, 1200, .inl s_text))]) (fun x1 => []) [0, 1] [] hf (fun x1 hx => wX4_takeToken E q_this q_text s_end s_at s_kind s_start s_value s_faultFound s_faultPlace s_text (v_told) x1  hx) zy_X4_takeToken zw_309 (by unfold zRm; decide) rfl rfl (fun _ => rfl) (N := 2) (by decide) (fun _ => ⟨rfl, rfl, rfl⟩) rfl rfl rfl (Nat.le_of_ble_eq_true rfl) dX4_takeName_1 rfl rfl (fun _ => rfl) (fun x1 hf => ?_)
  refine j_aload_n (q := 5) hC dX4_takeName_4 rfl rfl 0 rfl ?_
  refine j_aload_n (q := 6) hC dX4_takeName_5 rfl rfl 1 rfl ?_
  refine j_callV (q := 9) hC [.ref (E.2.2.2.1 j1)] [] (fun x2 : Int32 => some (.int x2)) (fun x2 => [(q_this, .inr (3, [.ref q_text, .int s_end, .int x1.1, .int x1.2.1, .int x1.2.2.1, .int x1.2.2.2, v_told, .int s_faultFound, .int s_faultPlace])), (q_text, .inl (E.2.1 1, 1200, .inl s_text))]) (fun x2 => [(q_this, .inr (3, [.ref q_text, .int s_end, .int x1.1, .int x1.2.1, .int x1.2.2.1, .int x1.2.2.2, v_told, .int s_faultFound, .int s_faultPlace])), (q_text, .inl (E.2.1 1, 1200, .inl s_text))]) (fun x2 => [.int x2]) [0, 1] [] hf (fun x2 hx => wX4_isName E q_this q_text s_end x1.1 x1.2.1 x1.2.2.1 x1.2.2.2 s_faultFound s_faultPlace s_text (v_told) j1 x2 hj1 hx) zy_X4_isName zw_322 (by unfold zRm; decide) rfl rfl (fun _ => rfl) (N := 2) (by decide) (fun _ => ⟨rfl, rfl, rfl⟩) rfl rfl rfl (Nat.le_of_ble_eq_true rfl) dX4_takeName_6 rfl rfl (fun _ => rfl) (fun x2 hf => ?_)
  refine j_if_ne (tgt := 20) (q := 12) hC dX4_takeName_9 (by decide) rfl hf (fun _ hf => ?_) (fun _ hf => ?_)
  · refine j_iconst (q := 21) (v := 1) hC dX4_takeName_20 rfl (by decide) ?_
    refine j_goto (tgt := 25) hC dX4_takeName_21 (by decide) ?_
    have hx := Option.some.inj hf
    exact j_zret hC hR rfl dX4_takeName_25 (by rw [← hx]) (by rw [← hx])
  · refine j_aload_n (q := 13) hC dX4_takeName_12 rfl rfl 0 rfl ?_
    refine j_iconst (q := 14) (v := 1) hC dX4_takeName_13 rfl (by decide) ?_
    refine j_callV (q := 17) hC [.int 1] [] (fun x3 : Int32 × Int32 × Int32 => some (.int x3.1)) (fun x3 => [(q_this, .inr (3, [.ref q_text, .int s_end, .int x1.1, .int x1.2.1, .int x1.2.2.1, .int x1.2.2.2, v_told, .int x3.2.1, .int x3.2.2]))]) (fun x3 => [(q_this, .inr (3, [.ref q_text, .int s_end, .int x1.1, .int x1.2.1, .int x1.2.2.1, .int x1.2.2.2, v_told, .int x3.2.1, .int x3.2.2])), (q_text, .inl (E.2.1 1, 1200, .inl s_text))]) (fun x3 => [.int x3.1]) [0] [1] hf (fun x3 hx => wX4_fail E q_this s_end x1.1 x1.2.1 x1.2.2.1 x1.2.2.2 s_faultFound s_faultPlace (.ref q_text) (v_told) 1 x3  hx) zy_X4_fail zw_374 (by unfold zRm; decide) rfl rfl (fun _ => rfl) (N := 2) (by decide) (fun _ => ⟨rfl, rfl, rfl⟩) rfl rfl rfl (Nat.le_of_ble_eq_true rfl) dX4_takeName_14 rfl rfl (fun _ => rfl) (fun x3 hf => ?_)
    refine j_if_eq (tgt := 24) (q := 20) hC dX4_takeName_17 (by decide) rfl hf (fun _ hf => ?_) (fun _ hf => ?_)
    · refine j_iconst (q := 25) (v := 0) hC dX4_takeName_24 rfl (by decide) ?_
      have hx := Option.some.inj hf
      exact j_zret hC hR rfl dX4_takeName_25 (by rw [← hx]) (by rw [← hx])
    · refine j_iconst (q := 21) (v := 1) hC dX4_takeName_20 rfl (by decide) ?_
      refine j_goto (tgt := 25) hC dX4_takeName_21 (by decide) ?_
      have hx := Option.some.inj hf
      exact j_zret hC hR rfl dX4_takeName_25 (by rw [← hx]) (by rw [← hx])
