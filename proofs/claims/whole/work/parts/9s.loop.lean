/-! ===== the law's loop ===== -/
def zTg (m : Nat) : Nat := [256, 329, 354, 367, 380, 417, 454, 479, 516, 541, 566, 604, 641, 691, 716, 753, 790, 827, 852, 877, 902, 951, 993, 1006, 1019, 1032, 1045, 1070, 1083, 1096, 1121, 1146, 1159, 1184, 1197, 1210, 1223, 1236, 1249, 1286, 1323, 1360, 1409, 1434, 1447, 1460, 1473, 1498, 1554, 1579].getD m 0
section LOOP
variable {C : zX} {E : zE} {b L o j k n : Nat} {xs : Nat → Int32} {ws : va_W} {X M : Nat}
theorem law_head (hC : zC C E cL_law RL 7 room_1) (hS : zSc C b L xs) (hL : L ≤ 3072) (hj : 6 * j ≤ 3078) (hend : L < 6 * j + 6 → J C k n ws [(0, .ref b), (1, .ref X), (2, .ref M), (3, .ref o), (4, .int (nI (6 * j)))] 1598 []) (kk : 6 * j + 6 ≤ L → J C k n ws [(0, .ref b), (1, .ref X), (2, .ref M), (3, .ref o), (4, .int (nI (6 * j)))] 33 []) : J C k n ws [(0, .ref b), (1, .ref X), (2, .ref M), (3, .ref o), (4, .int (nI (6 * j)))] 23 [] := by
  refine j_iload (q := 25) hC dL_law_23 rfl 4 rfl ?_
  refine j_aload_n (q := 26) hC dL_law_25 rfl rfl 0 rfl ?_
  refine j_sclen (q := 27) hC hS dL_law_26 rfl ?_
  refine j_bipush (q := 29) (v := 6) hC dL_law_27 rfl (by decide) ?_
  refine j_sub' (q := 30) hC dL_law_29 rfl ?_
  have e6 : (nI L - 6).toInt = (L : Int) - 6 := by
    rw [Int32.toInt_sub, nI_toInt (by omega)]
    have : (6 : Int32).toInt = 6 := by decide
    rw [this]
    have h1 : (-2147483648 : Int) ≤ (L : Int) - 6 := by omega
    have h2 : (L : Int) - 6 < 2147483648 := by omega
    exact Int.bmod_eq_of_le (by omega) (by omega)
  have e7 : (nI (6 * j)).toInt = ((6 * j : Nat) : Int) := nI_toInt (by omega)
  by_cases c : 6 * j + 6 ≤ L
  · refine j_icmp_gt (tgt := 1598) (q := 33) (X := none) (Y := some ()) (r := ()) hC dL_law_30 (by decide) rfl (if_neg (fun h => ?_)) (fun _ h => nomatch h) (fun _ _ => kk c)
    have := i_lt.mp h
    rw [e6, e7] at this
    omega
  · refine j_icmp_gt (tgt := 1598) (q := 33) (X := some ()) (Y := none) (r := ()) hC dL_law_30 (by decide) rfl (if_pos ?_) (fun _ _ => hend (by omega)) (fun _ h => nomatch h)
    refine i_lt.mpr ?_
    rw [e6, e7]
    omega
theorem law_switch (hC : zC C E cL_law RL 7 room_1) (hS : zSc C b L xs) (hL : L ≤ 3072) (hj : 6 * j + 6 ≤ L) (hout : J C k n ws [(0, .ref b), (1, .ref X), (2, .ref M), (3, .ref o), (4, .int (nI (6 * j)))] 1592 []) (hc : ∀ m, m < 50 → J C k n ws [(0, .ref b), (1, .ref X), (2, .ref M), (3, .ref o), (4, .int (nI (6 * j)))] (zTg m) []) : J C k n ws [(0, .ref b), (1, .ref X), (2, .ref M), (3, .ref o), (4, .int (nI (6 * j)))] 33 [] := by
  refine j_aload_n (q := 34) hC dL_law_33 rfl rfl 0 rfl ?_
  refine j_iload (q := 36) hC dL_law_34 rfl 4 rfl ?_
  refine j_scld (q := 37) hC hS (vp_in_nI (by omega) (by omega)) dL_law_36 rfl ?_
  refine j_bipush (q := 39) (v := 63) hC dL_law_37 rfl (by decide) ?_
  refine j_and' (q := 40) hC dL_law_39 rfl ?_
  obtain ⟨m, hm, he⟩ := vp_in_of (pk_andIn (xs (nI (6 * j)).toNatClampNeg) (m := 63) 6 (by decide) (by decide)) (by decide)
  rw [he]
  have et : (nI m).toInt = (m : Int) := nI_toInt (by omega)
  by_cases c : m < 50
  · have ho : ∀ m, m < 50 → (#[216, 289, 314, 327, 340, 377, 414, 439, 476, 501, 526, 564, 601, 651, 676, 713, 750, 787, 812, 837, 862, 911, 953, 966, 979, 992, 1005, 1030, 1043, 1056, 1081, 1106, 1119, 1144, 1157, 1170, 1183, 1196, 1209, 1246, 1283, 1320, 1369, 1394, 1407, 1420, 1433, 1458, 1514, 1539] : Array Int)[m]? = some ((zTg m : Int) - 40) := by decide
    refine j_table (off := (zTg m : Int) - 40) (tgt := zTg m) hC dL_law_40 (by rw [et]; omega) (by rw [et]; omega) ?_ (by show (40 : Int) + ((zTg m : Int) - 40) = (zTg m : Int); omega) (hc m c)
    rw [et, Int.sub_zero, Int.toNat_natCast]
    exact ho m c
  · exact j_tableOut (tgt := 1592) hC dL_law_40 (Or.inr (by rw [et]; omega)) (by decide) hout
theorem law_foot (hC : zC C E cL_law RL 7 room_1) (kk : J C k n ws [(0, .ref b), (1, .ref X), (2, .ref M), (3, .ref o), (4, .int (nI (6 * (j + 1))))] 23 []) : J C k n ws [(0, .ref b), (1, .ref X), (2, .ref M), (3, .ref o), (4, .int (nI (6 * j)))] 1592 [] := by
  refine j_iinc (q := 1595) (v := 6) (K := some) (r := nI (6 * j) + 6) hC (fun w => [(4, .int w), (0, .ref b), (1, .ref X), (2, .ref M), (3, .ref o)]) dL_law_1592 rfl 4 rfl (by decide) (by decide) (fun w => rfl) rfl (fun w hw => ?_)
  cases hw
  have e : nI (6 * j) + 6 = nI (6 * (j + 1)) := nI_add (6 * j) 6
  rw [e]
  refine j_goto (tgt := 23) hC dL_law_1595 (by decide) ?_
  exact j_sub (lv' := [(0, .ref b), (1, .ref X), (2, .ref M), (3, .ref o), (4, .int (nI (6 * (j + 1))))]) [1, 2, 3, 4, 0] rfl kk
end LOOP
section LAWC
variable {C : zX} {E : zE} {b L o j k n e : Nat} {xs : Nat → Int32} {q : Nat → Nat} {s : Nat → Int32} {a : Nat → Nat → Int32} {g : Nat → Option Nat} {vt vd : Value} {mq : Nat → Nat} {ms : Nat → Int32} {ma : Nat → Nat → Int32} {sl : Int64} {vr : Value} {rs : Nat → Nat → Nat} {ss : Nat → Nat → Int32} {ca : Nat → Nat → Nat → Int32} {f : Nat → Int64}
theorem law_casesC (h : zLaw C E b L o j k n xs) (hT : zThD C) (H : zGC j e s a g ms ma rs ss ca) : ∀ m, m < 50 → J C k n (WX E q s a g vt vd ++ (IM E rs ss ca e ++ (WM E mq ms ma sl vr ++ zO E o f))) [(0, .ref b), (1, .ref (q 0)), (2, .ref (mq 0)), (3, .ref o), (4, .int (nI (6 * j)))] (zTg m) []
  | 0, _ => c_feed h H
  | 1, _ => c_cache h H
  | 2, _ => c_fault h H
  | 3, _ => c_where h H
  | 4, _ => c_word h H
  | 5, _ => c_memory h H
  | 6, _ => c_form h H
  | 7, _ => c_bytes h H
  | 8, _ => c_forms h H
  | 9, _ => c_segments h H
  | 10, _ => c_base h H
  | 11, _ => c_mask h H
  | 12, _ => c_difference h H
  | 13, _ => c_linesOf h H
  | 14, _ => c_set h H
  | 15, _ => c_tag h H
  | 16, _ => c_cached h H
  | 17, _ => c_isCached h H
  | 18, _ => c_victim h H
  | 19, _ => c_makesRoom h H
  | 20, _ => c_growsOver h H
  | 21, _ => c_ratio h H
  | 22, _ => c_lines h H
  | 23, _ => c_runHits h H
  | 24, _ => c_runVictims h H
  | 25, _ => c_runBacks h H
  | 26, _ => c_runStep h H
  | 27, _ => c_plainHits h H
  | 28, _ => c_plainBacks h H
  | 29, _ => c_hitsBy h H
  | 30, _ => c_waysFor h H
  | 31, _ => c_fits h H
  | 32, _ => c_fitAt h H
  | 33, _ => c_could h H
  | 34, _ => c_surely h H
  | 35, _ => c_ask h H
  | 36, _ => c_askLeaves h H
  | 37, _ => c_judge h H
  | 38, _ => c_drawnHits h H
  | 39, _ => c_drawnBacks h H
  | 40, _ => c_read h H
  | 41, _ => c_write h H
  | 42, _ => c_drop h H
  | 43, _ => c_clean h H
  | 44, _ => c_undo h H
  | 45, _ => c_image h H
  | 46, _ => c_back h H
  | 47, _ => c_led h hT H
  | 48, _ => c_size h H
  | 49, _ => c_trouble h H
  | m + 50, hm => absurd hm (by omega)
theorem law_casesN (h : zLaw C E b L o j k n xs) (hT : zThD C) (he : e = 0) (H : zGN s a g ms ma rs) : ∀ m, m < 50 → J C k n (WX E q s a g vt vd ++ (IM E rs ss ca e ++ (WN E mq ms ma sl vr ++ zO E o f))) [(0, .ref b), (1, .ref (q 0)), (2, .ref (mq 0)), (3, .ref o), (4, .int (nI (6 * j)))] (zTg m) []
  | 0, _ => cn_feed h he H
  | 1, _ => cn_cache h he H
  | 2, _ => cn_fault h he H
  | 3, _ => cn_where h he H
  | 4, _ => cn_word h he H
  | 5, _ => cn_memory h he H
  | 6, _ => cn_form h he H
  | 7, _ => cn_bytes h he H
  | 8, _ => cn_forms h he H
  | 9, _ => cn_segments h he H
  | 10, _ => cn_base h he H
  | 11, _ => cn_mask h he H
  | 12, _ => cn_difference h he H
  | 13, _ => cn_linesOf h he H
  | 14, _ => cn_set h he H
  | 15, _ => cn_tag h he H
  | 16, _ => cn_cached h he H
  | 17, _ => cn_isCached h he H
  | 18, _ => cn_victim h he H
  | 19, _ => cn_makesRoom h he H
  | 20, _ => cn_growsOver h he H
  | 21, _ => cn_ratio h he H
  | 22, _ => cn_lines h he H
  | 23, _ => cn_runHits h he H
  | 24, _ => cn_runVictims h he H
  | 25, _ => cn_runBacks h he H
  | 26, _ => cn_runStep h he H
  | 27, _ => cn_plainHits h he H
  | 28, _ => cn_plainBacks h he H
  | 29, _ => cn_hitsBy h he H
  | 30, _ => cn_waysFor h he H
  | 31, _ => cn_fits h he H
  | 32, _ => cn_fitAt h he H
  | 33, _ => cn_could h he H
  | 34, _ => cn_surely h he H
  | 35, _ => cn_ask h he H
  | 36, _ => cn_askLeaves h he H
  | 37, _ => cn_judge h he H
  | 38, _ => cn_drawnHits h he H
  | 39, _ => cn_drawnBacks h he H
  | 40, _ => cn_read h he H
  | 41, _ => cn_write h he H
  | 42, _ => cn_drop h he H
  | 43, _ => cn_clean h he H
  | 44, _ => cn_undo h he H
  | 45, _ => cn_image h he H
  | 46, _ => cn_back h he H
  | 47, _ => cn_led h hT he H
  | 48, _ => cn_size h he H
  | 49, _ => cn_trouble h he H
  | m + 50, hm => absurd hm (by omega)
end LAWC
def zLC (C : zX) (E : zE) (b o j k n : Nat) : Prop := ∀ (q : Nat → Nat) (s : Nat → Int32) (a : Nat → Nat → Int32) (g : Nat → Option Nat) (vt vd : Value) (mq : Nat → Nat) (ms : Nat → Int32) (ma : Nat → Nat → Int32) (sl : Int64) (vr : Value) (e : Nat) (rs : Nat → Nat → Nat) (ss : Nat → Nat → Int32) (ca : Nat → Nat → Nat → Int32) (f : Nat → Int64), zGC j e s a g ms ma rs ss ca → J C k n (WX E q s a g vt vd ++ (IM E rs ss ca e ++ (WM E mq ms ma sl vr ++ zO E o f))) [(0, .ref b), (1, .ref (q 0)), (2, .ref (mq 0)), (3, .ref o), (4, .int (nI (6 * j)))] 23 []
def zLN (C : zX) (E : zE) (b o j k n : Nat) : Prop := ∀ (q : Nat → Nat) (s : Nat → Int32) (a : Nat → Nat → Int32) (g : Nat → Option Nat) (vt vd : Value) (mq : Nat → Nat) (ms : Nat → Int32) (ma : Nat → Nat → Int32) (sl : Int64) (vr : Value) (e : Nat) (rs : Nat → Nat → Nat) (ss : Nat → Nat → Int32) (ca : Nat → Nat → Nat → Int32) (f : Nat → Int64), e = 0 → zGN s a g ms ma rs → J C k n (WX E q s a g vt vd ++ (IM E rs ss ca e ++ (WN E mq ms ma sl vr ++ zO E o f))) [(0, .ref b), (1, .ref (q 0)), (2, .ref (mq 0)), (3, .ref o), (4, .int (nI (6 * j)))] 23 []
set_option maxRecDepth 20000 in
theorem law_loop {C : zX} {E : zE} {b L o : Nat} {xs : Nat → Int32} (hC : zC C E cL_law RL 7 room_1) (hT : zThD C) (hS : zSc C b L xs) (hL : L ≤ 3072) (hend : ∀ (k n : Nat) (ws : va_W) (lv : List (Nat × Value)), k ≤ 601024 → n ≤ 7293034 → J C k n ws lv 1598 []) : ∀ (m j k n : Nat), L < 6 * j + 6 + 6 * m → 6 * j ≤ L → k + 8 * m ≤ 601024 → n + 700 * m ≤ 7293034 → zLC C E b o j k n ∧ zLN C E b o j k n := by
  intro m
  induction m with
  | zero =>
    intro j k n h1 h2 h3 h4
    refine ⟨fun q s a g vt vd mq ms ma sl vr e rs ss ca f H => ?_, fun q s a g vt vd mq ms ma sl vr e rs ss ca f he H => ?_⟩
    · exact law_head hC hS hL (by omega) (fun _ => hend _ _ _ _ (by omega) (by omega)) (fun h => absurd h (by omega))
    · exact law_head hC hS hL (by omega) (fun _ => hend _ _ _ _ (by omega) (by omega)) (fun h => absurd h (by omega))
  | succ m ih =>
    intro j k n h1 h2 h3 h4
    have hlaw : 6 * j + 6 ≤ L → zLaw C E b L o j k n xs := fun hj =>
      ⟨hC, hS, hj, hL, by omega, by omega, fun q s a g vt vd mq ms ma sl vr e rs ss ca f k' n' hk' hn' H => law_foot hC ((ih (j + 1) k' n' (by omega) (by omega) (by omega) (by omega)).1 q s a g vt vd mq ms ma sl vr e rs ss ca f H),
        fun q s a g vt vd mq ms ma sl vr e rs ss ca f k' n' he hk' hn' H => law_foot hC ((ih (j + 1) k' n' (by omega) (by omega) (by omega) (by omega)).2 q s a g vt vd mq ms ma sl vr e rs ss ca f he H)⟩
    refine ⟨fun q s a g vt vd mq ms ma sl vr e rs ss ca f H => ?_, fun q s a g vt vd mq ms ma sl vr e rs ss ca f he H => ?_⟩
    · refine law_head hC hS hL (by omega) (fun _ => hend _ _ _ _ (by omega) (by omega)) (fun hj => ?_)
      have h := hlaw hj
      refine law_switch hC hS hL hj (h.2.2.2.2.2.2.1 q s a g vt vd mq ms ma sl vr e rs ss ca f k n (by omega) (by omega) (zGC_up H)) (fun m hm => ?_)
      exact law_casesC h hT H m hm
    · refine law_head hC hS hL (by omega) (fun _ => hend _ _ _ _ (by omega) (by omega)) (fun hj => ?_)
      have h := hlaw hj
      refine law_switch hC hS hL hj (h.2.2.2.2.2.2.2 q s a g vt vd mq ms ma sl vr e rs ss ca f k n he (by omega) (by omega) H) (fun m hm => ?_)
      exact law_casesN h hT he H m hm
