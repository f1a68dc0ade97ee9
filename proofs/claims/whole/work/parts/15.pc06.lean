noncomputable def fX5_size (s_taped : Int32) (s_imaged : Int32) (s_past_kept : Int32) (s_plan_sets : Int32) (s_plan_ways : Int32) (s_plan_weighed : Int32) (s_plan_linesTold : Int32) (s_plan_steps : Int32) (s_plan_unsure : Int32) (s_plan_seen : Int32) (a1 : Int32) : Option (Int32) :=
  if a1 = 0 then (some s_plan_sets)
    else (if a1 = 1 then (some s_plan_ways)
    else (if a1 = 2 then (if s_plan_weighed = 0 then (some 0)
    else (some 1))
    else (if a1 = 3 then (some s_plan_linesTold)
    else (if a1 = 4 then (some s_plan_steps)
    else (if a1 = 5 then (some s_plan_unsure)
    else (if a1 = 6 then (some s_plan_seen)
    else (if a1 = 7 then (some s_past_kept)
    else (if a1 = 8 then (some s_imaged)
    else (if a1 = 9 then (some s_taped)
    else (some (-1)))))))))))
set_option maxHeartbeats 4000000 in
set_option maxRecDepth 100000 in
theorem wX5_size (E : zE) (q_this : Nat) (q_past : Nat) (q_plan : Nat) (s_taped : Int32) (s_hasCache : Int32) (s_imaged : Int32) (s_refusal : Int32) (s_past_kept : Int32) (s_plan_sets : Int32) (s_plan_ways : Int32) (s_plan_weighed : Int32) (s_plan_linesTold : Int32) (s_plan_steps : Int32) (s_plan_unsure : Int32) (s_plan_seen : Int32) (s_plan_fitsKnown : Int32) (s_plan_fitBits : Int32) (v_tape : Value) (v_spare : Value) (v_teller : Value) (v_now : Value) (v_trial : Value) (v_images : Value) (v_past_root : Value) (v_past_kinds : Value) (v_past_spots : Value) (v_past_words : Value) (v_plan_toldAlready : Value) (v_plan_memory : Value) (v_plan_stepSpot : Value) (v_plan_stepWord : Value) (v_plan_unsureSpot : Value) (v_plan_unsureWord : Value) (v_plan_seenStep : Value) (v_plan_seenHit : Value) (a1 : Int32) (x : Int32) (hf : fX5_size s_taped s_imaged s_past_kept s_plan_sets s_plan_ways s_plan_weighed s_plan_linesTold s_plan_steps s_plan_unsure s_plan_seen a1 = some x) (l : Launch) (sz : Nat) : zM l yX5_size cX5_size 2 (some .int) { frames := 0, cells := 0, slots := 0, locals := 0 } E [.ref q_this, .int a1] [(q_this, .inr (4, [v_tape, .int s_taped, .ref q_plan, v_spare, .int s_hasCache, v_teller, v_now, v_trial, .ref q_past, v_images, .int s_imaged, .int s_refusal])), (q_past, .inr (0, [v_past_root, v_past_kinds, v_past_spots, v_past_words, .int s_past_kept])), (q_plan, .inr (1, [.int s_plan_sets, .int s_plan_ways, .int s_plan_weighed, .int s_plan_linesTold, v_plan_toldAlready, v_plan_memory, .int s_plan_steps, v_plan_stepSpot, v_plan_stepWord, .int s_plan_unsure, v_plan_unsureSpot, v_plan_unsureWord, .int s_plan_seen, v_plan_seenStep, v_plan_seenHit, .int s_plan_fitsKnown, .int s_plan_fitBits]))] sz (some (.int x)) [(q_this, .inr (4, [v_tape, .int s_taped, .ref q_plan, v_spare, .int s_hasCache, v_teller, v_now, v_trial, .ref q_past, v_images, .int s_imaged, .int s_refusal])), (q_past, .inr (0, [v_past_root, v_past_kinds, v_past_spots, v_past_words, .int s_past_kept])), (q_plan, .inr (1, [.int s_plan_sets, .int s_plan_ways, .int s_plan_weighed, .int s_plan_linesTold, v_plan_toldAlready, v_plan_memory, .int s_plan_steps, v_plan_stepSpot, v_plan_stepWord, .int s_plan_unsure, v_plan_unsureSpot, v_plan_unsureWord, .int s_plan_seen, v_plan_seenStep, v_plan_seenHit, .int s_plan_fitsKnown, .int s_plan_fitBits]))] := by
  refine zEnter (by decide) (Nat.le_of_ble_eq_true rfl) ?_
  intro C hC hR
  change zC C E cX5_size "PackedCache" 2 _ at hC
  unfold fX5_size at hf
  refine j_sub (lv' := [(0, .ref q_this), (1, .int a1)]) [0, 1] rfl ?_
  refine j_iload_n (q := 1) hC dX5_size_0 rfl rfl 1 rfl ?_
  by_cases c1_0 : a1 = 0
  · have hf := (zite_s hf).1 c1_0
    refine j_table (tgt := 56) hC dX5_size_1 (by rw [c1_0]; decide) (by rw [c1_0]; decide) (by rw [c1_0]; rfl) (by decide) ?_
    refine j_aload_n (q := 57) hC dX5_size_56 rfl rfl 0 rfl ?_
    refine j_get (q := 60) hC zcl_X5 0 2 zw_244 ⟨rfl, rfl, by decide⟩ rfl rfl dX5_size_57 rfl ?_
    refine j_getN (q := 63) hC zcl_X1 2 0 zn_38 ⟨rfl, rfl, by decide⟩ rfl rfl dX5_size_60 rfl ?_
    have hx := Option.some.inj hf
    exact j_iret hC hR dX5_size_63 (by rw [← hx]) rfl
  · have hf := (zite_s hf).2 c1_0
    by_cases c1_1 : a1 = 1
    · have hf := (zite_s hf).1 c1_1
      refine j_table (tgt := 64) hC dX5_size_1 (by rw [c1_1]; decide) (by rw [c1_1]; decide) (by rw [c1_1]; rfl) (by decide) ?_
      refine j_aload_n (q := 65) hC dX5_size_64 rfl rfl 0 rfl ?_
      refine j_get (q := 68) hC zcl_X5 0 2 zw_244 ⟨rfl, rfl, by decide⟩ rfl rfl dX5_size_65 rfl ?_
      refine j_getN (q := 71) hC zcl_X1 2 1 zn_40 ⟨rfl, rfl, by decide⟩ rfl rfl dX5_size_68 rfl ?_
      have hx := Option.some.inj hf
      exact j_iret hC hR dX5_size_71 (by rw [← hx]) rfl
    · have hf := (zite_s hf).2 c1_1
      by_cases c1_2 : a1 = 2
      · have hf := (zite_s hf).1 c1_2
        refine j_table (tgt := 72) hC dX5_size_1 (by rw [c1_2]; decide) (by rw [c1_2]; decide) (by rw [c1_2]; rfl) (by decide) ?_
        refine j_aload_n (q := 73) hC dX5_size_72 rfl rfl 0 rfl ?_
        refine j_get (q := 76) hC zcl_X5 0 2 zw_244 ⟨rfl, rfl, by decide⟩ rfl rfl dX5_size_73 rfl ?_
        refine j_getN (q := 79) hC zcl_X1 2 2 zn_45 ⟨rfl, rfl, by decide⟩ rfl rfl dX5_size_76 rfl ?_
        refine j_if_eq (tgt := 86) (q := 82) hC dX5_size_79 (by decide) rfl hf (fun _ hf => ?_) (fun _ hf => ?_)
        · refine j_iconst (q := 87) (v := 0) hC dX5_size_86 rfl (by decide) ?_
          have hx := Option.some.inj hf
          exact j_iret hC hR dX5_size_87 (by rw [← hx]) rfl
        · refine j_iconst (q := 83) (v := 1) hC dX5_size_82 rfl (by decide) ?_
          refine j_goto (tgt := 87) hC dX5_size_83 (by decide) ?_
          have hx := Option.some.inj hf
          exact j_iret hC hR dX5_size_87 (by rw [← hx]) rfl
      · have hf := (zite_s hf).2 c1_2
        by_cases c1_3 : a1 = 3
        · have hf := (zite_s hf).1 c1_3
          refine j_table (tgt := 88) hC dX5_size_1 (by rw [c1_3]; decide) (by rw [c1_3]; decide) (by rw [c1_3]; rfl) (by decide) ?_
          refine j_aload_n (q := 89) hC dX5_size_88 rfl rfl 0 rfl ?_
          refine j_get (q := 92) hC zcl_X5 0 2 zw_244 ⟨rfl, rfl, by decide⟩ rfl rfl dX5_size_89 rfl ?_
          refine j_getN (q := 95) hC zcl_X1 2 3 zn_48 ⟨rfl, rfl, by decide⟩ rfl rfl dX5_size_92 rfl ?_
          have hx := Option.some.inj hf
          exact j_iret hC hR dX5_size_95 (by rw [← hx]) rfl
        · have hf := (zite_s hf).2 c1_3
          by_cases c1_4 : a1 = 4
          · have hf := (zite_s hf).1 c1_4
            refine j_table (tgt := 96) hC dX5_size_1 (by rw [c1_4]; decide) (by rw [c1_4]; decide) (by rw [c1_4]; rfl) (by decide) ?_
            refine j_aload_n (q := 97) hC dX5_size_96 rfl rfl 0 rfl ?_
            refine j_get (q := 100) hC zcl_X5 0 2 zw_244 ⟨rfl, rfl, by decide⟩ rfl rfl dX5_size_97 rfl ?_
            refine j_getN (q := 103) hC zcl_X1 2 6 zn_55 ⟨rfl, rfl, by decide⟩ rfl rfl dX5_size_100 rfl ?_
            have hx := Option.some.inj hf
            exact j_iret hC hR dX5_size_103 (by rw [← hx]) rfl
          · have hf := (zite_s hf).2 c1_4
            by_cases c1_5 : a1 = 5
            · have hf := (zite_s hf).1 c1_5
              refine j_table (tgt := 104) hC dX5_size_1 (by rw [c1_5]; decide) (by rw [c1_5]; decide) (by rw [c1_5]; rfl) (by decide) ?_
              refine j_aload_n (q := 105) hC dX5_size_104 rfl rfl 0 rfl ?_
              refine j_get (q := 108) hC zcl_X5 0 2 zw_244 ⟨rfl, rfl, by decide⟩ rfl rfl dX5_size_105 rfl ?_
              refine j_getN (q := 111) hC zcl_X1 2 9 zn_67 ⟨rfl, rfl, by decide⟩ rfl rfl dX5_size_108 rfl ?_
              have hx := Option.some.inj hf
              exact j_iret hC hR dX5_size_111 (by rw [← hx]) rfl
            · have hf := (zite_s hf).2 c1_5
              by_cases c1_6 : a1 = 6
              · have hf := (zite_s hf).1 c1_6
                refine j_table (tgt := 112) hC dX5_size_1 (by rw [c1_6]; decide) (by rw [c1_6]; decide) (by rw [c1_6]; rfl) (by decide) ?_
                refine j_aload_n (q := 113) hC dX5_size_112 rfl rfl 0 rfl ?_
                refine j_get (q := 116) hC zcl_X5 0 2 zw_244 ⟨rfl, rfl, by decide⟩ rfl rfl dX5_size_113 rfl ?_
                refine j_getN (q := 119) hC zcl_X1 2 12 zn_76 ⟨rfl, rfl, by decide⟩ rfl rfl dX5_size_116 rfl ?_
                have hx := Option.some.inj hf
                exact j_iret hC hR dX5_size_119 (by rw [← hx]) rfl
              · have hf := (zite_s hf).2 c1_6
                by_cases c1_7 : a1 = 7
                · have hf := (zite_s hf).1 c1_7
                  refine j_table (tgt := 120) hC dX5_size_1 (by rw [c1_7]; decide) (by rw [c1_7]; decide) (by rw [c1_7]; rfl) (by decide) ?_
                  refine j_aload_n (q := 121) hC dX5_size_120 rfl rfl 0 rfl ?_
                  refine j_get (q := 124) hC zcl_X5 0 8 zw_250 ⟨rfl, rfl, by decide⟩ rfl rfl dX5_size_121 rfl ?_
                  refine j_getN (q := 127) hC zcl_X0 1 4 zn_229 ⟨rfl, rfl, by decide⟩ rfl rfl dX5_size_124 rfl ?_
                  have hx := Option.some.inj hf
                  exact j_iret hC hR dX5_size_127 (by rw [← hx]) rfl
                · have hf := (zite_s hf).2 c1_7
                  by_cases c1_8 : a1 = 8
                  · have hf := (zite_s hf).1 c1_8
                    refine j_table (tgt := 128) hC dX5_size_1 (by rw [c1_8]; decide) (by rw [c1_8]; decide) (by rw [c1_8]; rfl) (by decide) ?_
                    refine j_aload_n (q := 129) hC dX5_size_128 rfl rfl 0 rfl ?_
                    refine j_get (q := 132) hC zcl_X5 0 10 zw_252 ⟨rfl, rfl, by decide⟩ rfl rfl dX5_size_129 rfl ?_
                    have hx := Option.some.inj hf
                    exact j_iret hC hR dX5_size_132 (by rw [← hx]) rfl
                  · have hf := (zite_s hf).2 c1_8
                    by_cases c1_9 : a1 = 9
                    · have hf := (zite_s hf).1 c1_9
                      refine j_table (tgt := 133) hC dX5_size_1 (by rw [c1_9]; decide) (by rw [c1_9]; decide) (by rw [c1_9]; rfl) (by decide) ?_
                      refine j_aload_n (q := 134) hC dX5_size_133 rfl rfl 0 rfl ?_
                      refine j_get (q := 137) hC zcl_X5 0 1 zw_243 ⟨rfl, rfl, by decide⟩ rfl rfl dX5_size_134 rfl ?_
                      have hx := Option.some.inj hf
                      exact j_iret hC hR dX5_size_137 (by rw [← hx]) rfl
                    · have hf := (zite_s hf).2 c1_9
                      have hc1_0 := lv_neT c1_0 (a := 0) (by decide)
                      have hc1_1 := lv_neT c1_1 (a := 1) (by decide)
                      have hc1_2 := lv_neT c1_2 (a := 2) (by decide)
                      have hc1_3 := lv_neT c1_3 (a := 3) (by decide)
                      have hc1_4 := lv_neT c1_4 (a := 4) (by decide)
                      have hc1_5 := lv_neT c1_5 (a := 5) (by decide)
                      have hc1_6 := lv_neT c1_6 (a := 6) (by decide)
                      have hc1_7 := lv_neT c1_7 (a := 7) (by decide)
                      have hc1_8 := lv_neT c1_8 (a := 8) (by decide)
                      have hc1_9 := lv_neT c1_9 (a := 9) (by decide)
                      refine j_tableOut (tgt := 138) hC dX5_size_1 (by omega) (by decide) ?_
                      refine j_iconst (q := 139) (v := (-1)) hC dX5_size_138 rfl (by decide) ?_
                      have hx := Option.some.inj hf
                      exact j_iret hC hR dX5_size_139 (by rw [← hx]) rfl
noncomputable def fX5_trouble (s_refusal : Int32) : Option (Int32) :=
  some s_refusal
set_option maxHeartbeats 4000000 in
set_option maxRecDepth 100000 in
theorem wX5_trouble (E : zE) (q_this : Nat) (s_taped : Int32) (s_hasCache : Int32) (s_imaged : Int32) (s_refusal : Int32) (v_tape : Value) (v_plan : Value) (v_spare : Value) (v_teller : Value) (v_now : Value) (v_trial : Value) (v_past : Value) (v_images : Value) (x : Int32) (hf : fX5_trouble s_refusal = some x) (l : Launch) (sz : Nat) : zM l yX5_trouble cX5_trouble 1 (some .int) { frames := 0, cells := 0, slots := 0, locals := 0 } E [.ref q_this] [(q_this, .inr (4, [v_tape, .int s_taped, v_plan, v_spare, .int s_hasCache, v_teller, v_now, v_trial, v_past, v_images, .int s_imaged, .int s_refusal]))] sz (some (.int x)) [(q_this, .inr (4, [v_tape, .int s_taped, v_plan, v_spare, .int s_hasCache, v_teller, v_now, v_trial, v_past, v_images, .int s_imaged, .int s_refusal]))] := by
  refine zEnter (by decide) (Nat.le_of_ble_eq_true rfl) ?_
  intro C hC hR
  change zC C E cX5_trouble "PackedCache" 1 _ at hC
  unfold fX5_trouble at hf
  refine j_sub (lv' := [(0, .ref q_this)]) [0] rfl ?_
  refine j_aload_n (q := 1) hC dX5_trouble_0 rfl rfl 0 rfl ?_
  refine j_get (q := 4) hC zcl_X5 0 11 zw_253 ⟨rfl, rfl, by decide⟩ rfl rfl dX5_trouble_1 rfl ?_
  have hx := Option.some.inj hf
  exact j_iret hC hR dX5_trouble_4 (by rw [← hx]) rfl
