/-! ===== led: one call of the law ===== -/
theorem zP_o {O X Z B : va_W} : ((O ++ X) ++ (Z ++ B)).Perm (X ++ (Z ++ (B ++ O))) := by
  have h : (O ++ (X ++ (Z ++ B))).Perm ((X ++ (Z ++ B)) ++ O) := List.perm_append_comm
  simpa only [List.append_assoc] using h
section LEDR
variable {j e : Nat} {s : Nat → Int32} {a : Nat → Nat → Int32} {g : Nat → Option Nat} {ms : Nat → Int32} {ma : Nat → Nat → Int32} {rs : Nat → Nat → Nat} {ss : Nat → Nat → Int32} {ca : Nat → Nat → Nat → Int32}
theorem r_led (H : zGC j e s a g ms ma rs ss ca) (a1 : Int32) : fX7_led (ms 0) (ma 2) a1 = (match zfa a1 0 (ytR (a 27) 0 32) with | none => some (0, 1) | some l => some (nI l, 0)) := by
  obtain ⟨h1, hg, t, nc, p, nl, r, A, I, hnc, h0, hP, hN, hi⟩ := H
  obtain ⟨hb, hcl, hmo⟩ := hN
  have hI := (zAb_now hb).1
  have e1 : ytR (a 27) 0 32 = zDl (aActs (mkK (pSt p) (pWy p) (pWg p) false) r A) := by
    unfold zDl zrun
    refine List.filter_congr (fun l hl => ?_)
    have hl : l < 32 := by have := List.mem_range'_1.mp hl; omega
    have e2 : a 27 l = nI (aD (aActs (mkK (pSt p) (pWy p) (pWg p) false) r A) l) := (hcl.1.2.2.2.2.2.1 l hl).2.1
    have e3 := (hI.1 l hl).1
    rw [e2]
    generalize aD (aActs (mkK (pSt p) (pWy p) (pWg p) false) r A) l = z at e3
    rcases (show z = 0 ∨ z = 1 by omega) with rfl | rfl
    · decide
    · decide
  rw [e1]
  exact pX7_led hI hmo.2 a1
theorem rn_led (H : zGN s a g ms ma rs) (a1 : Int32) : zfa a1 0 (ytR (a 27) 0 32) = none := by
  obtain ⟨h1, hg, ⟨t, h0⟩, h2, h45, -, hd⟩ := H
  have e1 : ytR (a 27) 0 32 = [] := by
    show (List.range' 0 32).filter _ = []
    refine List.filter_eq_nil_iff.mpr (fun l hl => ?_)
    have hl : l < 32 := by have := List.mem_range'_1.mp hl; omega
    rw [hd l hl]
    decide
  rw [e1]
  rfl
theorem zGC_0 (H : zGC j e s a g ms ma rs ss ca) (r : Int32) : zGC j e s a g (zu ms 0 r) ma rs ss ca := by
  obtain ⟨h1, hg, t, nc, p, nl, r', A, I, hnc, h0, h⟩ := H
  exact ⟨h1, hg, t, nc, p, nl, r', A, I, hnc, h0, h⟩
theorem zGN_0 (H : zGN s a g ms ma rs) (r : Int32) : zGN s a g (zu ms 0 r) ma rs := by
  obtain ⟨h1, hg, ⟨t, h0⟩, h2⟩ := H
  exact ⟨h1, hg, ⟨t, h0⟩, h2⟩
end LEDR
section LAWC
variable {C : zX} {E : zE} {b L o j k n e : Nat} {xs : Nat → Int32} {q : Nat → Nat} {s : Nat → Int32} {a : Nat → Nat → Int32} {g : Nat → Option Nat} {vt vd : Value} {mq : Nat → Nat} {ms : Nat → Int32} {ma : Nat → Nat → Int32} {sl : Int64} {vr : Value} {rs : Nat → Nat → Nat} {ss : Nat → Nat → Int32} {ca : Nat → Nat → Nat → Int32} {f : Nat → Int64}
set_option maxHeartbeats 1000000 in
theorem led_tail (h : zLaw C E b L o j k n xs) (H : zGC j e s a g ms ma rs ss ca) {v r : Int32} (hm : fX7_led (ms 0) (ma 2) (xs (6 * j + 1)) = some (v, r)) (hr : r = 1 ∨ (r = 0 ∧ f 0 = v.toInt64)) {k' n' : Nat} (hk' : k' ≤ k + 8) (hn' : n' ≤ n + 700) : J C k' n' (WX E q s a g vt vd ++ (IM E rs ss ca e ++ (WM E mq ms ma sl vr ++ zO E o f))) [(0, .ref b), (1, .ref (q 0)), (2, .ref (mq 0)), (3, .ref o), (4, .int (nI (6 * j))), (5, .int r)] 1511 [] := by
  obtain ⟨hC, hS, hj, hL, hk, hn, kc, kn⟩ := h
  refine j_aload_n (q := 1512) hC dL_law_1511 rfl rfl 2 rfl ?_
  refine j_arg (q := 1518) (v := 1) hC hS rfl rfl (by decide) (by omega) hL dL_law_1512 dL_law_1513 dL_law_1515 dL_law_1516 dL_law_1517 rfl ?_
  refine j_Perm zP_in ?_
  refine lM_led hC mq ms ma sl vr (xs (6 * j + 1)) (v, r) hm [] zk_X7_led ⟨rfl, rfl, by decide, by decide, Nat.le_trans (by omega) (show 601024 ≤ room_1.cells from Nat.le_refl _), Nat.le_trans (by omega) (show 7293034 ≤ room_1.slots from Nat.le_refl _)⟩ (by decide) dL_law_1518 rfl ?_
  refine j_Perm zP_out ?_
  refine j_istore (q := 1523) (lv' := [(6, .int v), (0, .ref b), (1, .ref (q 0)), (2, .ref (mq 0)), (3, .ref o), (4, .int (nI (6 * j))), (5, .int r)]) hC dL_law_1521 rfl (by decide) rfl ?_
  refine j_aload_n (q := 1524) hC dL_law_1523 rfl rfl 3 rfl ?_
  refine j_Perm zP_in ?_
  refine lM_thrown hC mq (zu ms 0 r) ma sl vr r rfl [] zk_X7_thrown ⟨rfl, rfl, by decide, by decide, Nat.le_trans (by omega) (show 601024 ≤ room_1.cells from Nat.le_refl _), Nat.le_trans (by omega) (show 7293034 ≤ room_1.slots from Nat.le_refl _)⟩ (by decide) dL_law_1524 rfl ?_
  refine j_Perm zP_out ?_
  refine j_iload (q := 1529) hC dL_law_1527 rfl 6 rfl ?_
  refine j_cmp (tgt := 1534) hC rfl dL_law_1529 (by decide) ?_
  refine j_iload (q := 1536) hC dL_law_1534 rfl 6 rfl ?_
  have fin : J C k' n' (WX E q s a g vt vd ++ (IM E rs ss ca e ++ (WM E mq (zu ms 0 r) ma sl vr ++ zO E o f))) [(6, .int v), (0, .ref b), (1, .ref (q 0)), (2, .ref (mq 0)), (3, .ref o), (4, .int (nI (6 * j))), (5, .int r)] 1551 [] := by
    refine j_goto (tgt := 1592) hC dL_law_1551 (by decide) ?_
    refine j_sub (lv' := [(0, .ref b), (1, .ref (q 0)), (2, .ref (mq 0)), (3, .ref o), (4, .int (nI (6 * j)))]) [1, 2, 3, 4, 5] rfl ?_
    exact kc q s a g vt vd mq (zu ms 0 r) ma sl vr e rs ss ca f k' n' hk' hn' (zGC_up (zGC_0 H r))
  rcases hr with hr | ⟨hr, hf⟩
  · exact j_neT (tgt := 1551) hC (by rw [hr]; decide) dL_law_1536 (by decide) fin
  · refine j_neF (tgt := 1551) (q := 1539) hC hr dL_law_1536 (by decide) rfl ?_
    refine j_aload_n (q := 1540) hC dL_law_1539 rfl rfl 4 rfl ?_
    refine j_iconst (q := 1541) (v := 0) hC dL_law_1540 rfl (by decide) ?_
    refine j_Perm zP_o ?_
    have hf0 : zald f 1 0 some = some (f 0) := by
      unfold zald
      rw [if_neg (by decide)]
      rfl
    refine j_lald (q := 1542) hC 0 rfl dL_law_1541 rfl hf0 (fun x hx => ?_)
    cases hx
    refine j_Perm zP_o.symm ?_
    refine j_iload (q := 1544) hC dL_law_1542 rfl 0 rfl ?_
    refine j_i2l (q := 1545) (K := some) (r := v.toInt64) hC dL_law_1544 rfl rfl (fun z hz => ?_)
    cases hz
    exact j_cmpL (p1 := 1546) (tgt := 1551) hC hf dL_law_1545 rfl dL_law_1546 (by decide) fin
set_option maxHeartbeats 1000000 in
theorem c_led (h : zLaw C E b L o j k n xs) (hT : zThD C) (H : zGC j e s a g ms ma rs ss ca) : J C k n (WX E q s a g vt vd ++ (IM E rs ss ca e ++ (WM E mq ms ma sl vr ++ zO E o f))) [(0, .ref b), (1, .ref (q 0)), (2, .ref (mq 0)), (3, .ref o), (4, .int (nI (6 * j)))] 1498 [] := by
  obtain ⟨hC, hS, hj, hL, hk, hn, kc, kn⟩ := id h
  refine j_aload_n (q := 1499) hC dL_law_1498 rfl rfl 1 rfl ?_
  refine j_arg (q := 1505) (v := 1) hC hS rfl rfl (by decide) (by omega) hL dL_law_1499 dL_law_1500 dL_law_1502 dL_law_1503 dL_law_1504 rfl ?_
  refine j_aload_n (q := 1506) hC dL_law_1505 rfl rfl 3 rfl ?_
  refine j_Perm zP_o ?_
  have hm := r_led H (xs (6 * j + 1))
  cases hz : zfa (xs (6 * j + 1)) 0 (ytR (a 27) 0 32) with
  | none =>
    rw [hz] at hm
    refine j_callLed (f' := f) (r := 1) hC hT (fun l hl sz => k_lawT E (q 0) (q 21) (q 27) o (ytF q s) (ytG q s) (a 27) f (xs (6 * j + 1)) rfl rfl hz l hl sz) (by omega) (by omega) ?_
    refine j_Perm zP_o.symm ?_
    refine j_istore (q := 1511) (lv' := [(5, .int 1), (0, .ref b), (1, .ref (q 0)), (2, .ref (mq 0)), (3, .ref o), (4, .int (nI (6 * j)))]) hC dL_law_1509 rfl (by decide) rfl ?_
    refine j_sub (lv' := [(0, .ref b), (1, .ref (q 0)), (2, .ref (mq 0)), (3, .ref o), (4, .int (nI (6 * j))), (5, .int 1)]) [1, 2, 3, 4, 5, 0] rfl ?_
    exact led_tail h H hm (Or.inl rfl) (by omega) (by omega)
  | some v =>
    rw [hz] at hm
    refine j_callLed (f' := vp_updL f 0 (nI v).toInt64) (r := 0) hC hT (fun l hl sz => k_lawR E (q 0) (q 21) (q 27) o (ytF q s) (ytG q s) (a 27) f (xs (6 * j + 1)) rfl rfl v hz l hl sz) (by omega) (by omega) ?_
    refine j_Perm zP_o.symm ?_
    refine j_istore (q := 1511) (lv' := [(5, .int 0), (0, .ref b), (1, .ref (q 0)), (2, .ref (mq 0)), (3, .ref o), (4, .int (nI (6 * j)))]) hC dL_law_1509 rfl (by decide) rfl ?_
    refine j_sub (lv' := [(0, .ref b), (1, .ref (q 0)), (2, .ref (mq 0)), (3, .ref o), (4, .int (nI (6 * j))), (5, .int 0)]) [1, 2, 3, 4, 5, 0] rfl ?_
    exact led_tail h H hm (Or.inr ⟨rfl, rfl⟩) (by omega) (by omega)
set_option maxHeartbeats 1000000 in
theorem cn_led (h : zLaw C E b L o j k n xs) (hT : zThD C) (he : e = 0) (H : zGN s a g ms ma rs) : J C k n (WX E q s a g vt vd ++ (IM E rs ss ca e ++ (WN E mq ms ma sl vr ++ zO E o f))) [(0, .ref b), (1, .ref (q 0)), (2, .ref (mq 0)), (3, .ref o), (4, .int (nI (6 * j)))] 1498 [] := by
  obtain ⟨hC, hS, hj, hL, hk, hn, kc, kn⟩ := id h
  refine j_aload_n (q := 1499) hC dL_law_1498 rfl rfl 1 rfl ?_
  refine j_arg (q := 1505) (v := 1) hC hS rfl rfl (by decide) (by omega) hL dL_law_1499 dL_law_1500 dL_law_1502 dL_law_1503 dL_law_1504 rfl ?_
  refine j_aload_n (q := 1506) hC dL_law_1505 rfl rfl 3 rfl ?_
  refine j_Perm zP_o ?_
  have hz := rn_led H (xs (6 * j + 1))
  refine j_callLed (f' := f) (r := 1) hC hT (fun l hl sz => k_lawT E (q 0) (q 21) (q 27) o (ytF q s) (ytG q s) (a 27) f (xs (6 * j + 1)) rfl rfl hz l hl sz) (by omega) (by omega) ?_
  refine j_Perm zP_o.symm ?_
  refine j_istore (q := 1511) (lv' := [(5, .int 1), (0, .ref b), (1, .ref (q 0)), (2, .ref (mq 0)), (3, .ref o), (4, .int (nI (6 * j)))]) hC dL_law_1509 rfl (by decide) rfl ?_
  refine j_sub (lv' := [(0, .ref b), (1, .ref (q 0)), (2, .ref (mq 0)), (3, .ref o), (4, .int (nI (6 * j))), (5, .int 1)]) [1, 2, 3, 4, 5, 0] rfl ?_
  refine j_aload_n (q := 1512) hC dL_law_1511 rfl rfl 2 rfl ?_
  refine j_arg (q := 1518) (v := 1) hC hS rfl rfl (by decide) (by omega) hL dL_law_1512 dL_law_1513 dL_law_1515 dL_law_1516 dL_law_1517 rfl ?_
  refine j_Perm zP_in ?_
  refine lN_led hC mq ms ma sl vr (xs (6 * j + 1)) (0, 1) rfl [] zk_X7_led ⟨rfl, rfl, by decide, by decide, Nat.le_trans (by omega) (show 601024 ≤ room_1.cells from Nat.le_refl _), Nat.le_trans (by omega) (show 7293034 ≤ room_1.slots from Nat.le_refl _)⟩ (by decide) dL_law_1518 rfl ?_
  refine j_Perm zP_out ?_
  refine j_istore (q := 1523) (lv' := [(6, .int 0), (0, .ref b), (1, .ref (q 0)), (2, .ref (mq 0)), (3, .ref o), (4, .int (nI (6 * j))), (5, .int 1)]) hC dL_law_1521 rfl (by decide) rfl ?_
  refine j_aload_n (q := 1524) hC dL_law_1523 rfl rfl 3 rfl ?_
  refine j_Perm zP_in ?_
  refine lN_thrown hC mq (zu ms 0 1) ma sl vr 1 rfl [] zk_X7_thrown ⟨rfl, rfl, by decide, by decide, Nat.le_trans (by omega) (show 601024 ≤ room_1.cells from Nat.le_refl _), Nat.le_trans (by omega) (show 7293034 ≤ room_1.slots from Nat.le_refl _)⟩ (by decide) dL_law_1524 rfl ?_
  refine j_Perm zP_out ?_
  refine j_iload (q := 1529) hC dL_law_1527 rfl 6 rfl ?_
  refine j_cmp (tgt := 1534) hC rfl dL_law_1529 (by decide) ?_
  refine j_iload (q := 1536) hC dL_law_1534 rfl 6 rfl ?_
  refine j_neT (tgt := 1551) hC (by decide) dL_law_1536 (by decide) ?_
  refine j_goto (tgt := 1592) hC dL_law_1551 (by decide) ?_
  refine j_sub (lv' := [(0, .ref b), (1, .ref (q 0)), (2, .ref (mq 0)), (3, .ref o), (4, .int (nI (6 * j)))]) [1, 2, 3, 4, 5] rfl ?_
  exact kn q s a g vt vd mq (zu ms 0 1) ma sl vr e rs ss ca f (k + 1) (n + 6) he (by omega) (by omega) (zGN_0 H 1)
end LAWC
