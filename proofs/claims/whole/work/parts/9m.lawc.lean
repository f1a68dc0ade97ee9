/-! ===== cache, image, back of the law ===== -/
section IMJ
variable {C : zX} {E : zE} {k n e d : Nat} {lv : List (Nat × Value)} {pc : Nat} {st : List Value} {rs : Nat → Nat → Nat} {ss : Nat → Nat → Int32} {ca : Nat → Nat → Nat → Int32} {A X Y : va_W} {r : Nat → Nat} {x : Nat → Int32} {y : Nat → Nat → Int32}
theorem j_im_new (kk : J C k n (A ++ (IM E (zv rs e r) (zv ss e x) (zv ca e y) (e + 1) ++ X)) lv pc st) : J C k n (A ++ (ST E r x y ++ (IM E rs ss ca e ++ X))) lv pc st := by
  rw [IM_new, List.append_assoc] at kk
  exact kk
theorem j_im_in (hY : ∀ x y, (ST E (rs d) x y ++ Y).Perm (IM E rs (zv ss d x) (zv ca d y) e)) (kk : J C k n (A ++ (ST E (rs d) (ss d) (ca d) ++ (Y ++ X))) lv pc st) : J C k n (A ++ (IM E rs ss ca e ++ X)) lv pc st := by
  refine j_Perm ?_ kk
  have h := hY (ss d) (ca d)
  rw [zv_self, zv_self] at h
  refine List.Perm.append_left A ?_
  rw [← List.append_assoc]
  exact h.append_right X
theorem j_im_out (hY : ∀ x y, (ST E (rs d) x y ++ Y).Perm (IM E rs (zv ss d x) (zv ca d y) e)) (kk : J C k n (A ++ (IM E rs (zv ss d x) (zv ca d y) e ++ X)) lv pc st) : J C k n (A ++ (ST E (rs d) x y ++ (Y ++ X))) lv pc st := by
  refine j_Perm ?_ kk
  refine List.Perm.append_left A ?_
  rw [← List.append_assoc]
  exact (hY x y).symm.append_right X
theorem j_im_back (hY : ∀ x y, (ST E (rs d) x y ++ Y).Perm (IM E rs (zv ss d x) (zv ca d y) e)) (kk : J C k n (A ++ (IM E rs ss ca e ++ X)) lv pc st) : J C k n (A ++ (ST E (rs d) (ss d) (ca d) ++ (Y ++ X))) lv pc st := by
  refine j_im_out hY ?_
  rw [zv_self, zv_self]
  exact kk
end IMJ
section LAWC
variable {C : zX} {E : zE} {b L o j k n e : Nat} {xs : Nat → Int32} {q : Nat → Nat} {s : Nat → Int32} {a : Nat → Nat → Int32} {g : Nat → Option Nat} {vt vd : Value} {mq : Nat → Nat} {ms : Nat → Int32} {ma : Nat → Nat → Int32} {sl : Int64} {vr : Value} {rs : Nat → Nat → Nat} {ss : Nat → Nat → Int32} {ca : Nat → Nat → Nat → Int32} {f : Nat → Int64}
set_option maxHeartbeats 2000000 in
theorem c_cache (h : zLaw C E b L o j k n xs) (H : zGC j e s a g ms ma rs ss ca) : J C k n (WX E q s a g vt vd ++ (IM E rs ss ca e ++ (WM E mq ms ma sl vr ++ zO E o f))) [(0, .ref b), (1, .ref (q 0)), (2, .ref (mq 0)), (3, .ref o), (4, .int (nI (6 * j)))] 329 [] := by
  obtain ⟨hC, hS, hj, hL, hk, hn, kc, kn⟩ := h
  obtain ⟨h1, hg, t, nc, p, nl, r, A, I, hnc, h0, hP, hN, hi⟩ := H
  rcases b_cache (j := j) (sl := sl) (ss := ss) (ca := ca) h0 hg (xs (6 * j + 1)) with ⟨x, y, e1, e2, e3, h0'⟩ | ⟨x, y, e1, e2, e3, h0'⟩ | ⟨x, y, e1, e2, e3, H'⟩
  · refine j_aload_n (q := 330) hC dL_law_329 rfl rfl 1 rfl ?_
    refine j_arg (q := 336) (v := 1) hC hS rfl rfl (by decide) (by omega) hL dL_law_330 dL_law_331 dL_law_333 dL_law_334 dL_law_335 rfl ?_
    refine lX_cacheR hC q s a g vt vd (xs (6 * j + 1)) x e1 [] zk_X5_cache ⟨rfl, rfl, by decide, by decide, Nat.le_trans (by omega) (show 601024 ≤ room_1.cells from Nat.le_refl _), Nat.le_trans (by omega) (show 7293034 ≤ room_1.slots from Nat.le_refl _)⟩ (by decide) dL_law_336 rfl ?_
    refine j_aload_n (q := 340) hC dL_law_339 rfl rfl 2 rfl ?_
    refine j_arg (q := 346) (v := 1) hC hS rfl rfl (by decide) (by omega) hL dL_law_340 dL_law_341 dL_law_343 dL_law_344 dL_law_345 rfl ?_
    refine j_Perm zP_in ?_
    refine lM_cacheR hC mq ms ma sl vr (xs (6 * j + 1)) y e2 [.int x.1] zk_X7_cache ⟨rfl, rfl, by decide, by decide, Nat.le_trans (by omega) (show 601024 ≤ room_1.cells from Nat.le_refl _), Nat.le_trans (by omega) (show 7293034 ≤ room_1.slots from Nat.le_refl _)⟩ (Nat.le_of_ble_eq_true rfl) dL_law_346 rfl ?_
    refine j_Perm zP_out ?_
    refine j_cmp (tgt := 1592) hC e3 dL_law_349 (by decide) ?_
    exact kc _ _ _ _ _ _ _ _ _ _ _ _ _ _ _ _ _ _ (by omega) (by omega) ⟨h1, hg, t, nc, p, nl, r, A, I, Nat.le_succ_of_le hnc, h0', hP, hN, hi⟩
  · refine j_aload_n (q := 330) hC dL_law_329 rfl rfl 1 rfl ?_
    refine j_arg (q := 336) (v := 1) hC hS rfl rfl (by decide) (by omega) hL dL_law_330 dL_law_331 dL_law_333 dL_law_334 dL_law_335 rfl ?_
    refine lX_cacheF hC q s a g vt vd (xs (6 * j + 1)) x e1 [] zk_X5_cache ⟨rfl, rfl, by decide, by decide, Nat.le_trans (by omega) (show 601024 ≤ room_1.cells from Nat.le_refl _), Nat.le_trans (by omega) (show 7293034 ≤ room_1.slots from Nat.le_refl _)⟩ (by decide) dL_law_336 rfl ?_
    refine j_aload_n (q := 340) hC dL_law_339 rfl rfl 2 rfl ?_
    refine j_arg (q := 346) (v := 1) hC hS rfl rfl (by decide) (by omega) hL dL_law_340 dL_law_341 dL_law_343 dL_law_344 dL_law_345 rfl ?_
    refine j_Perm zP_in ?_
    refine lM_cacheF hC mq ms ma sl vr (xs (6 * j + 1)) y e2 [.int x.1] zk_X7_cache ⟨rfl, rfl, by decide, by decide, Nat.le_trans (by omega) (show 601024 ≤ room_1.cells from Nat.le_refl _), Nat.le_trans (by omega) (show 7293034 ≤ room_1.slots from Nat.le_refl _)⟩ (Nat.le_of_ble_eq_true rfl) dL_law_346 rfl (fun r2 => ?_)
    refine j_Perm zP_out ?_
    refine j_cmp (tgt := 1592) hC e3 dL_law_349 (by decide) ?_
    exact kc _ _ _ _ _ _ _ _ _ _ _ _ _ _ _ _ _ _ (by omega) (by omega) ⟨h1, hg, 0, nc, p, nl, r, A, I, Nat.le_succ_of_le hnc, h0', hP, hN, hi⟩
  · refine j_aload_n (q := 330) hC dL_law_329 rfl rfl 1 rfl ?_
    refine j_arg (q := 336) (v := 1) hC hS rfl rfl (by decide) (by omega) hL dL_law_330 dL_law_331 dL_law_333 dL_law_334 dL_law_335 rfl ?_
    refine lX_cacheS hC q s a g vt vd (xs (6 * j + 1)) x e1 [] zk_X5_cache ⟨rfl, rfl, by decide, by decide, Nat.le_trans (by omega) (show 601024 ≤ room_1.cells from Nat.le_refl _), Nat.le_trans (by omega) (show 7293034 ≤ room_1.slots from Nat.le_refl _)⟩ (by decide) dL_law_336 rfl ?_
    refine j_aload_n (q := 340) hC dL_law_339 rfl rfl 2 rfl ?_
    refine j_arg (q := 346) (v := 1) hC hS rfl rfl (by decide) (by omega) hL dL_law_340 dL_law_341 dL_law_343 dL_law_344 dL_law_345 rfl ?_
    refine j_Perm zP_in ?_
    refine lM_cacheS hC mq ms ma sl vr (xs (6 * j + 1)) y e2 [.int x.1] zk_X7_cache ⟨rfl, rfl, by decide, by decide, Nat.le_trans (by omega) (show 601024 ≤ room_1.cells from Nat.le_refl _), Nat.le_trans (by omega) (show 7293034 ≤ room_1.slots from Nat.le_refl _)⟩ (Nat.le_of_ble_eq_true rfl) dL_law_346 rfl (fun r2 => ?_)
    refine j_Perm zP_out ?_
    refine j_cmp (tgt := 1592) hC e3 dL_law_349 (by decide) ?_
    exact kc _ _ _ _ _ _ _ _ _ _ _ _ _ _ _ _ _ _ (by omega) (by omega) H'
set_option maxHeartbeats 2000000 in
theorem cn_cache (h : zLaw C E b L o j k n xs) (he : e = 0) (H : zGN s a g ms ma rs) : J C k n (WX E q s a g vt vd ++ (IM E rs ss ca e ++ (WN E mq ms ma sl vr ++ zO E o f))) [(0, .ref b), (1, .ref (q 0)), (2, .ref (mq 0)), (3, .ref o), (4, .int (nI (6 * j)))] 329 [] := by
  obtain ⟨hC, hS, hj, hL, hk, hn, kc, kn⟩ := h
  obtain ⟨h1, hg, ⟨t, h0⟩, h2⟩ := H
  subst he
  have he : (0 : Nat) = 0 := rfl
  rcases b_cache (j := j) (sl := sl) (ss := ss) (ca := ca) h0 hg (xs (6 * j + 1)) with ⟨x, y, e1, e2, e3, h0'⟩ | ⟨x, y, e1, e2, e3, h0'⟩ | ⟨x, y, e1, e2, e3, H'⟩
  · refine j_aload_n (q := 330) hC dL_law_329 rfl rfl 1 rfl ?_
    refine j_arg (q := 336) (v := 1) hC hS rfl rfl (by decide) (by omega) hL dL_law_330 dL_law_331 dL_law_333 dL_law_334 dL_law_335 rfl ?_
    refine lX_cacheR hC q s a g vt vd (xs (6 * j + 1)) x e1 [] zk_X5_cache ⟨rfl, rfl, by decide, by decide, Nat.le_trans (by omega) (show 601024 ≤ room_1.cells from Nat.le_refl _), Nat.le_trans (by omega) (show 7293034 ≤ room_1.slots from Nat.le_refl _)⟩ (by decide) dL_law_336 rfl ?_
    refine j_aload_n (q := 340) hC dL_law_339 rfl rfl 2 rfl ?_
    refine j_arg (q := 346) (v := 1) hC hS rfl rfl (by decide) (by omega) hL dL_law_340 dL_law_341 dL_law_343 dL_law_344 dL_law_345 rfl ?_
    refine j_Perm zP_in ?_
    refine lN_cacheR hC mq ms ma sl vr (xs (6 * j + 1)) y e2 [.int x.1] zk_X7_cache ⟨rfl, rfl, by decide, by decide, Nat.le_trans (by omega) (show 601024 ≤ room_1.cells from Nat.le_refl _), Nat.le_trans (by omega) (show 7293034 ≤ room_1.slots from Nat.le_refl _)⟩ (Nat.le_of_ble_eq_true rfl) dL_law_346 rfl ?_
    refine j_Perm zP_out ?_
    refine j_cmp (tgt := 1592) hC e3 dL_law_349 (by decide) ?_
    exact kn _ _ _ _ _ _ _ _ _ _ _ _ _ _ _ _ _ _ he (by omega) (by omega) ⟨h1, hg, ⟨t, h0'⟩, h2⟩
  · refine j_aload_n (q := 330) hC dL_law_329 rfl rfl 1 rfl ?_
    refine j_arg (q := 336) (v := 1) hC hS rfl rfl (by decide) (by omega) hL dL_law_330 dL_law_331 dL_law_333 dL_law_334 dL_law_335 rfl ?_
    refine lX_cacheF hC q s a g vt vd (xs (6 * j + 1)) x e1 [] zk_X5_cache ⟨rfl, rfl, by decide, by decide, Nat.le_trans (by omega) (show 601024 ≤ room_1.cells from Nat.le_refl _), Nat.le_trans (by omega) (show 7293034 ≤ room_1.slots from Nat.le_refl _)⟩ (by decide) dL_law_336 rfl ?_
    refine j_aload_n (q := 340) hC dL_law_339 rfl rfl 2 rfl ?_
    refine j_arg (q := 346) (v := 1) hC hS rfl rfl (by decide) (by omega) hL dL_law_340 dL_law_341 dL_law_343 dL_law_344 dL_law_345 rfl ?_
    refine j_Perm zP_in ?_
    refine lN_cacheF hC mq ms ma sl vr (xs (6 * j + 1)) y e2 [.int x.1] zk_X7_cache ⟨rfl, rfl, by decide, by decide, Nat.le_trans (by omega) (show 601024 ≤ room_1.cells from Nat.le_refl _), Nat.le_trans (by omega) (show 7293034 ≤ room_1.slots from Nat.le_refl _)⟩ (Nat.le_of_ble_eq_true rfl) dL_law_346 rfl (fun r2 => ?_)
    refine j_Perm zP_out ?_
    refine j_cmp (tgt := 1592) hC e3 dL_law_349 (by decide) ?_
    exact kn _ _ _ _ _ _ _ _ _ _ _ _ _ _ _ _ _ _ he (by omega) (by omega) ⟨h1, hg, ⟨0, h0'⟩, h2⟩
  · refine j_aload_n (q := 330) hC dL_law_329 rfl rfl 1 rfl ?_
    refine j_arg (q := 336) (v := 1) hC hS rfl rfl (by decide) (by omega) hL dL_law_330 dL_law_331 dL_law_333 dL_law_334 dL_law_335 rfl ?_
    refine lX_cacheS hC q s a g vt vd (xs (6 * j + 1)) x e1 [] zk_X5_cache ⟨rfl, rfl, by decide, by decide, Nat.le_trans (by omega) (show 601024 ≤ room_1.cells from Nat.le_refl _), Nat.le_trans (by omega) (show 7293034 ≤ room_1.slots from Nat.le_refl _)⟩ (by decide) dL_law_336 rfl ?_
    refine j_aload_n (q := 340) hC dL_law_339 rfl rfl 2 rfl ?_
    refine j_arg (q := 346) (v := 1) hC hS rfl rfl (by decide) (by omega) hL dL_law_340 dL_law_341 dL_law_343 dL_law_344 dL_law_345 rfl ?_
    refine j_Perm zP_in ?_
    refine lN_cacheS hC mq ms ma sl vr (xs (6 * j + 1)) y e2 [.int x.1] zk_X7_cache ⟨rfl, rfl, by decide, by decide, Nat.le_trans (by omega) (show 601024 ≤ room_1.cells from Nat.le_refl _), Nat.le_trans (by omega) (show 7293034 ≤ room_1.slots from Nat.le_refl _)⟩ (Nat.le_of_ble_eq_true rfl) dL_law_346 rfl (fun r2 => ?_)
    refine j_Perm zP_out ?_
    refine j_cmp (tgt := 1592) hC e3 dL_law_349 (by decide) ?_
    exact kc _ _ _ _ _ _ _ _ _ _ _ _ _ _ _ _ _ _ (by omega) (by omega) H'
set_option maxHeartbeats 2000000 in
theorem c_image (h : zLaw C E b L o j k n xs) (H : zGC j e s a g ms ma rs ss ca) : J C k n (WX E q s a g vt vd ++ (IM E rs ss ca e ++ (WM E mq ms ma sl vr ++ zO E o f))) [(0, .ref b), (1, .ref (q 0)), (2, .ref (mq 0)), (3, .ref o), (4, .int (nI (6 * j)))] 1460 [] := by
  obtain ⟨hC, hS, hj, hL, hk, hn, kc, kn⟩ := h
  rcases r_image H (by omega) with ⟨x, y, e1, e2, e3, H'⟩ | ⟨hg, x, y, e1, e2, e3, H'⟩ | ⟨d, hd, hg, x, y, e1, e2, e3, H'⟩
  · refine j_aload_n (q := 1461) hC dL_law_1460 rfl rfl 1 rfl ?_
    refine lX_imageR hC q s a g vt vd  x e1 [] zk_X5_image ⟨rfl, rfl, by decide, by decide, Nat.le_trans (by omega) (show 601024 ≤ room_1.cells from Nat.le_refl _), Nat.le_trans (by omega) (show 7293034 ≤ room_1.slots from Nat.le_refl _)⟩ (by decide) dL_law_1461 rfl ?_
    refine j_aload_n (q := 1465) hC dL_law_1464 rfl rfl 2 rfl ?_
    refine j_Perm zP_in ?_
    refine lM_image hC mq ms ma sl vr  y e2 [.int x.1] zk_X7_image ⟨rfl, rfl, by decide, by decide, Nat.le_trans (by omega) (show 601024 ≤ room_1.cells from Nat.le_refl _), Nat.le_trans (by omega) (show 7293034 ≤ room_1.slots from Nat.le_refl _)⟩ (Nat.le_of_ble_eq_true rfl) dL_law_1465 rfl ?_
    refine j_Perm zP_out ?_
    refine j_cmp (tgt := 1592) hC e3 dL_law_1468 (by decide) ?_
    exact kc _ _ _ _ _ _ _ _ _ _ _ _ _ _ _ _ _ _ (by omega) (by omega) H'
  · refine j_aload_n (q := 1461) hC dL_law_1460 rfl rfl 1 rfl ?_
    refine lX_imageA hC q s a g vt vd hg x e1 [] zk_X5_image ⟨rfl, rfl, by decide, by decide, Nat.le_trans (by omega) (show 601024 ≤ room_1.cells from Nat.le_refl _), Nat.le_trans (by omega) (show 7293034 ≤ room_1.slots from Nat.le_refl _)⟩ (by decide) dL_law_1461 rfl (fun r => ?_)
    refine j_im_new ?_
    refine j_aload_n (q := 1465) hC dL_law_1464 rfl rfl 2 rfl ?_
    refine j_Perm zP_in ?_
    refine lM_image hC mq ms ma sl vr  y e2 [.int x.1] zk_X7_image ⟨rfl, rfl, by decide, by decide, Nat.le_trans (by omega) (show 601024 ≤ room_1.cells from Nat.le_refl _), Nat.le_trans (by omega) (show 7293034 ≤ room_1.slots from Nat.le_refl _)⟩ (Nat.le_of_ble_eq_true rfl) dL_law_1465 rfl ?_
    refine j_Perm zP_out ?_
    refine j_cmp (tgt := 1592) hC e3 dL_law_1468 (by decide) ?_
    exact kc _ _ _ _ _ _ _ _ _ _ _ _ _ _ _ _ _ _ (by omega) (by omega) (H' r)
  · obtain ⟨Y, hY⟩ := IM_at (E := E) (rs := rs) (ss := ss) (ca := ca) e hd
    refine j_aload_n (q := 1461) hC dL_law_1460 rfl rfl 1 rfl ?_
    refine j_im_in hY ?_
    refine lX_imageB hC q s a g vt vd (rs d) (ss d) (ca d) hg x e1 [] zk_X5_image ⟨rfl, rfl, by decide, by decide, Nat.le_trans (by omega) (show 601024 ≤ room_1.cells from Nat.le_refl _), Nat.le_trans (by omega) (show 7293034 ≤ room_1.slots from Nat.le_refl _)⟩ (by decide) dL_law_1461 rfl ?_
    refine j_im_out hY ?_
    refine j_aload_n (q := 1465) hC dL_law_1464 rfl rfl 2 rfl ?_
    refine j_Perm zP_in ?_
    refine lM_image hC mq ms ma sl vr  y e2 [.int x.1] zk_X7_image ⟨rfl, rfl, by decide, by decide, Nat.le_trans (by omega) (show 601024 ≤ room_1.cells from Nat.le_refl _), Nat.le_trans (by omega) (show 7293034 ≤ room_1.slots from Nat.le_refl _)⟩ (Nat.le_of_ble_eq_true rfl) dL_law_1465 rfl ?_
    refine j_Perm zP_out ?_
    refine j_cmp (tgt := 1592) hC e3 dL_law_1468 (by decide) ?_
    exact kc _ _ _ _ _ _ _ _ _ _ _ _ _ _ _ _ _ _ (by omega) (by omega) H'
set_option maxHeartbeats 2000000 in
theorem c_back (h : zLaw C E b L o j k n xs) (H : zGC j e s a g ms ma rs ss ca) : J C k n (WX E q s a g vt vd ++ (IM E rs ss ca e ++ (WM E mq ms ma sl vr ++ zO E o f))) [(0, .ref b), (1, .ref (q 0)), (2, .ref (mq 0)), (3, .ref o), (4, .int (nI (6 * j)))] 1473 [] := by
  obtain ⟨hC, hS, hj, hL, hk, hn, kc, kn⟩ := h
  rcases r_back H (by omega) (xs (6 * j + 1)) with ⟨x, y, e1, e2, e3, H'⟩ | ⟨d, hd, hg, x, y, e1, e2, e3, H'⟩
  · refine j_aload_n (q := 1474) hC dL_law_1473 rfl rfl 1 rfl ?_
    refine j_arg (q := 1480) (v := 1) hC hS rfl rfl (by decide) (by omega) hL dL_law_1474 dL_law_1475 dL_law_1477 dL_law_1478 dL_law_1479 rfl ?_
    refine lX_backR hC q s a g vt vd (xs (6 * j + 1)) x e1 [] zk_X5_back ⟨rfl, rfl, by decide, by decide, Nat.le_trans (by omega) (show 601024 ≤ room_1.cells from Nat.le_refl _), Nat.le_trans (by omega) (show 7293034 ≤ room_1.slots from Nat.le_refl _)⟩ (by decide) dL_law_1480 rfl ?_
    refine j_aload_n (q := 1484) hC dL_law_1483 rfl rfl 2 rfl ?_
    refine j_arg (q := 1490) (v := 1) hC hS rfl rfl (by decide) (by omega) hL dL_law_1484 dL_law_1485 dL_law_1487 dL_law_1488 dL_law_1489 rfl ?_
    refine j_Perm zP_in ?_
    refine lM_back hC mq ms ma sl vr (xs (6 * j + 1)) y e2 [.int x.1] zk_X7_back ⟨rfl, rfl, by decide, by decide, Nat.le_trans (by omega) (show 601024 ≤ room_1.cells from Nat.le_refl _), Nat.le_trans (by omega) (show 7293034 ≤ room_1.slots from Nat.le_refl _)⟩ (Nat.le_of_ble_eq_true rfl) dL_law_1490 rfl ?_
    refine j_Perm zP_out ?_
    refine j_cmp (tgt := 1592) hC e3 dL_law_1493 (by decide) ?_
    exact kc _ _ _ _ _ _ _ _ _ _ _ _ _ _ _ _ _ _ (by omega) (by omega) H'
  · obtain ⟨Y, hY⟩ := IM_at (E := E) (rs := rs) (ss := ss) (ca := ca) e hd
    refine j_aload_n (q := 1474) hC dL_law_1473 rfl rfl 1 rfl ?_
    refine j_arg (q := 1480) (v := 1) hC hS rfl rfl (by decide) (by omega) hL dL_law_1474 dL_law_1475 dL_law_1477 dL_law_1478 dL_law_1479 rfl ?_
    refine j_im_in hY ?_
    refine lX_backB hC q s a g vt vd (rs d) (ss d) (ca d) (xs (6 * j + 1)) hg x e1 [] zk_X5_back ⟨rfl, rfl, by decide, by decide, Nat.le_trans (by omega) (show 601024 ≤ room_1.cells from Nat.le_refl _), Nat.le_trans (by omega) (show 7293034 ≤ room_1.slots from Nat.le_refl _)⟩ (by decide) dL_law_1480 rfl ?_
    refine j_im_back hY ?_
    refine j_aload_n (q := 1484) hC dL_law_1483 rfl rfl 2 rfl ?_
    refine j_arg (q := 1490) (v := 1) hC hS rfl rfl (by decide) (by omega) hL dL_law_1484 dL_law_1485 dL_law_1487 dL_law_1488 dL_law_1489 rfl ?_
    refine j_Perm zP_in ?_
    refine lM_back hC mq ms ma sl vr (xs (6 * j + 1)) y e2 [.int x.1] zk_X7_back ⟨rfl, rfl, by decide, by decide, Nat.le_trans (by omega) (show 601024 ≤ room_1.cells from Nat.le_refl _), Nat.le_trans (by omega) (show 7293034 ≤ room_1.slots from Nat.le_refl _)⟩ (Nat.le_of_ble_eq_true rfl) dL_law_1490 rfl ?_
    refine j_Perm zP_out ?_
    refine j_cmp (tgt := 1592) hC e3 dL_law_1493 (by decide) ?_
    exact kc _ _ _ _ _ _ _ _ _ _ _ _ _ _ _ _ _ _ (by omega) (by omega) H'
end LAWC
