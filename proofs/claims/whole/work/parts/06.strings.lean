/-! ===== String constants: length, charAt ===== -/
def zLn (j : Nat) : Nat := ((zStr[j]?).map (fun q => q.2.2.2.length)).getD 0
def zBy (j k : Nat) : Int32 := ((zStr[j]?).map (fun q => q.2.2.2.getD k 0)).getD 0
theorem zStr_at {j : Nat} (h : j < 25) : ∃ q, zStr[j]? = some q := by
  have : j < zStr.length := h
  exact ⟨zStr[j], List.getElem?_eq_getElem this⟩
section ZR
variable {C : zX} {E : zE} {cc : ByteArray} {own : String} {nL : Nat} {rm : Room} {k n : Nat} {ws : va_W} {lv : List (Nat × Value)} {pc q : Nat} {st : List Value} {j index : Nat}
theorem j_sgetv (hC : zC C E cc own nL rm) (hj : j < 25) (hw : Cond.fieldLink own index "java/lang/String" "value" "[B" ∈ zW) (hd : decode cc pc = .ok (.getfield index, 3)) (hq : pc + 3 = q) (kk : J C k n ws lv q (.ref (E.2.2.2.2 j) :: st)) : J C k n ws lv pc (.ref (E.2.2.2.1 j) :: st) := by
  obtain ⟨p, l, e, R, s, m, args, below, meth, c, A, nL', D, Q⟩ := C
  obtain ⟨hx, hb, hml, hown, hts, hG, hA, rfl, rfl, rfl⟩ := hC
  subst hq
  obtain ⟨qs, hqs⟩ := zStr_at hj
  exact fun H locs ls hP hD hS hl => vk_getf hx hb (hG.2.2.2.2.1 j qs hqs).2.2.2.1 hS hown (hts _ hw) (fun _ h => h) hd (kk H locs ls hP hD hS hl)
theorem j_sgetc (hC : zC C E cc own nL rm) (hj : j < 25) (hw : Cond.fieldLink own index "java/lang/String" "coder" "B" ∈ zW) (hd : decode cc pc = .ok (.getfield index, 3)) (hq : pc + 3 = q) (kk : J C k n ws lv q (.int 0 :: st)) : J C k n ws lv pc (.ref (E.2.2.2.1 j) :: st) := by
  obtain ⟨p, l, e, R, s, m, args, below, meth, c, A, nL', D, Q⟩ := C
  obtain ⟨hx, hb, hml, hown, hts, hG, hA, rfl, rfl, rfl⟩ := hC
  subst hq
  obtain ⟨qs, hqs⟩ := zStr_at hj
  exact fun H locs ls hP hD hS hl => vk_getf hx hb (hG.2.2.2.2.1 j qs hqs).2.2.1 hS hown (hts _ hw) (fun _ h => h) hd (kk H locs ls hP hD hS hl)
theorem j_slen (hC : zC C E cc own nL rm) (hj : j < 25) (hd : decode cc pc = .ok (.arraylength, 1)) (hq : pc + 1 = q) (kk : J C k n ws lv q (.int (Int32.ofNat (zLn j)) :: st)) : J C k n ws lv pc (.ref (E.2.2.2.2 j) :: st) := by
  obtain ⟨p, l, e, R, s, m, args, below, meth, c, A, nL', D, Q⟩ := C
  obtain ⟨hx, hb, hml, hown, hts, hG, hA, rfl, rfl, rfl⟩ := hC
  subst hq
  obtain ⟨qs, hqs⟩ := zStr_at hj
  have e1 : zLn j = qs.2.2.2.length := by unfold zLn; rw [hqs]; rfl
  exact fun H locs ls hP hD hS hl => va_tlen hx hb (hG.2.2.2.2.1 j qs hqs).2.2.2.2 hS (by rw [e1]) hd (kk H locs ls hP hD hS hl)
theorem j_sbald (hC : zC C E cc own nL rm) (hj : j < 25) {i : Int32} {β : Type} {r : β} {K : Int32 → Option β} (hd : decode cc pc = .ok (.baload, 1)) (hq : pc + 1 = q) (hf : zald (zBy j) (zLn j) i K = some r) (kk : ∀ x, K x = some r → J C k n ws lv q (.int x :: st)) : J C k n ws lv pc (.int i :: .ref (E.2.2.2.2 j) :: st) := by
  obtain ⟨p, l, e, R, s, m, args, below, meth, c, A, nL', D, Q⟩ := C
  obtain ⟨hx, hb, hml, hown, hts, hG, hA, rfl, rfl, rfl⟩ := hC
  subst hq
  obtain ⟨qs, hqs⟩ := zStr_at hj
  have e1 : zLn j = qs.2.2.2.length := by unfold zLn; rw [hqs]; rfl
  have e2 : zBy j i.toNatClampNeg = qs.2.2.2.getD i.toNatClampNeg 0 := by unfold zBy; rw [hqs]; rfl
  have h := zald_s hf
  exact fun H locs ls hP hD hS hl => va_tb hx hb (hG.2.2.2.2.1 j qs hqs).2.2.2.2 hS (by rw [← e1]; exact h.1) (by rw [← e2]) hd (kk _ h.2 H locs ls hP hD hS hl)
theorem j_getc (hC : zC C E cc own nL rm) (hw : Cond.fieldLink own index "java/lang/String" "COMPACT_STRINGS" "Z" ∈ zW) (hd : decode cc pc = .ok (.getstatic index, 3)) (hq : pc + 3 = q) (kk : J C k n ws lv q (.int 1 :: st)) : J C k n ws lv pc st := by
  obtain ⟨p, l, e, R, s, m, args, below, meth, c, A, nL', D, Q⟩ := C
  obtain ⟨hx, hb, hml, hown, hts, hG, hA, rfl, rfl, rfl⟩ := hC
  subst hq
  exact fun H locs ls hP hD hS hl => va_gets hx hb hG.2.2.2.1 hS hown (hts _ hw) (fun _ h => h) hd (kk H locs ls hP hD hS hl)
theorem j_getq (hC : zC C E cc own nL rm) (hw : Cond.fieldLink own index "jdk/internal/util/Preconditions" "SIOOBE_FORMATTER" "Ljava/util/function/BiFunction;" ∈ zW) (hd : decode cc pc = .ok (.getstatic index, 3)) (hq : pc + 3 = q) (kk : ∀ v, (v = .null ∨ ∃ t, v = .ref t) → J C k n ws lv q (v :: st)) : J C k n ws lv pc st := by
  obtain ⟨p, l, e, R, s, m, args, below, meth, c, A, nL', D, Q⟩ := C
  obtain ⟨hx, hb, hml, hown, hts, hG, hA, rfl, rfl, rfl⟩ := hC
  subst hq
  intro H locs ls hP hD hS hl
  rcases hG.2.2.2.2.2.1 with h | ⟨t, h⟩
  · exact va_gets hx hb h hS hown (hts _ hw) (fun _ h => h) hd (kk _ (Or.inl rfl) H locs ls hP hD hS hl)
  · exact va_gets hx hb h hS hown (hts _ hw) (fun _ h => h) hd (kk _ (Or.inr ⟨t, rfl⟩) H locs ls hP hD hS hl)
variable {y : MethodName} {cy : ByteArray} {nLy : Nat} {rety : Option FieldType} {rmy : Room} {α β : Type} {F : Option α} {K : α → Option β} {r : β} {na : Nat}
/-- a call of a String's own method: its world is empty -/
theorem j_callT (hC : zC C E cc own nL rm) (hj : j < 25) (As rest : List Value) (V : α → Option Value) (st' : α → List Value)
    (hf : F.bind K = some r) (hM : ∀ x, F = some x → ∀ l sz, zM l y cy nLy rety rmy E (.ref (E.2.2.2.1 j) :: As) [] sz (V x) []) (hy : zYv y cy nLy rety na) (hcls : y.cls = "java/lang/String") (hlink : Cond.methodLink own index y ∈ zW) (hrm : zRm rmy rm nLy k n)
    (hna : As.length = na) (hst8 : (rest.map fun v => v.category).sum ≤ 8)
    (hd : decode cc pc = .ok (.invokevirtual index, 3)) (hq : pc + 3 = q) (hs : st = As.reverse ++ .ref (E.2.2.2.1 j) :: rest) (hs' : ∀ x, (V x).toList ++ rest = st' x)
    (kk : ∀ x, K x = some r → J C k n ws lv q (st' x)) : J C k n ws lv pc st := by
  obtain ⟨p, l, e, R, s, m, args, below, meth, c, A, nL', D, Q⟩ := C
  obtain ⟨hx, hb, hml, hown, hts, hG, hA, rfl, rfl, rfl⟩ := hC
  subst hq
  subst hs
  obtain ⟨x, hF, hK⟩ := zbd_s hf
  obtain ⟨hy1, hy2, hy3, hy4, hy5⟩ := hy
  obtain ⟨r1, r2, r3, r4, r5, r6⟩ := hrm
  intro H locs ls hP hD hS hl
  obtain ⟨qs, hqs⟩ := zStr_at hj
  have hrc : ∃ cellB : Cell, H[E.2.2.2.1 j]? = some cellB ∧ cellB.vm.isStatics = false ∧ s.vm.findClass y.cls = some cellB.cls := by
    obtain ⟨cell, h1, h2, h3, -⟩ := (hG.2.2.2.2.1 j qs hqs).2.1.kept hS.2.1
    exact ⟨cell, h1, h2, by rw [hcls]; exact h3⟩
  have hrun := va_runV (cells := k) (slots := n) (e := e) (below := below) (meth := meth) (locs := locs) (g := F0 m pc ls (As.reverse ++ .ref (E.2.2.2.1 j) :: rest)) (rest := rest) (C := y.cls) (b := E.2.2.2.1 j) (As := As) ⟨hx, hb, hml, hown, hts⟩ (hM x hF l H.size)
    ⟨callB_of na hts (zGood' hy1) rfl r1 r2 (hts _ hy4) (hts _ hlink) hy5 ⟨r3, r4⟩, hts _ hy2, hts _ hy3⟩
    ⟨zPre_blind, hrc, zprep (ws := ws) (is := []) hG hP hD hS hA rfl rfl⟩ rfl hna hl.1 rfl (lv_room hst8) hd ⟨r5, r6⟩
  refine zcall (ws := ws) (ws' := ws) (is := []) hrun hP hD hS hA rfl rfl (fun k q h => Or.inr ⟨fun j hj => absurd hj (Nat.not_lt_zero j), h⟩) fun H1 locs1 hP1 hD1 hS1 => ?_
  rw [hs' x]
  exact kk x hK H1 locs1 ls hP1 hD1 hS1 hl
end ZR
set_option maxRecDepth 100000 in
theorem wJ_coder (E : zE) {j : Nat} (hj : j < 25) (l : Launch) (sz : Nat) : zM l yJ0_coder_7d493 cJ0_coder_7d493 1 (some .byte) { frames := 0, cells := 0, slots := 0, locals := 0 } E [.ref (E.2.2.2.1 j)] [] sz (some (.int 0)) [] := by
  refine zEnter (by decide) (Nat.le_of_ble_eq_true rfl) ?_
  intro C hC hR
  change zC C E cJ0_coder_7d493 "java/lang/String" 1 _ at hC
  refine j_sub (lv' := [(0, .ref (E.2.2.2.1 j))]) [0] rfl ?_
  refine j_getc (q := 3) hC zw_334 dJ0_coder_7d493_0 rfl ?_
  refine j_if_eq (β := Unit) (r := ()) (X := none) (Y := some ()) (tgt := 13) (q := 6) hC dJ0_coder_7d493_3 (by decide) rfl rfl (fun _ h => nomatch h) (fun _ _ => ?_)
  refine j_aload_n (q := 7) hC dJ0_coder_7d493_6 rfl rfl 0 rfl ?_
  refine j_sgetc (q := 10) hC hj zw_1628 dJ0_coder_7d493_7 rfl ?_
  refine j_goto (tgt := 14) hC dJ0_coder_7d493_10 (by decide) ?_
  exact j_zret hC hR rfl dJ0_coder_7d493_14 rfl rfl
set_option maxRecDepth 100000 in
theorem wJ_isLatin1 (E : zE) {j : Nat} (hj : j < 25) (l : Launch) (sz : Nat) : zM l yJ0_isLatin1_aae02 cJ0_isLatin1_aae02 1 (some .boolean) { frames := 0, cells := 0, slots := 0, locals := 0 } E [.ref (E.2.2.2.1 j)] [] sz (some (.int 1)) [] := by
  refine zEnter (by decide) (Nat.le_of_ble_eq_true rfl) ?_
  intro C hC hR
  change zC C E cJ0_isLatin1_aae02 "java/lang/String" 1 _ at hC
  refine j_sub (lv' := [(0, .ref (E.2.2.2.1 j))]) [0] rfl ?_
  refine j_getc (q := 3) hC zw_334 dJ0_isLatin1_aae02_0 rfl ?_
  refine j_if_eq (β := Unit) (r := ()) (X := none) (Y := some ()) (tgt := 17) (q := 6) hC dJ0_isLatin1_aae02_3 (by decide) rfl rfl (fun _ h => nomatch h) (fun _ _ => ?_)
  refine j_aload_n (q := 7) hC dJ0_isLatin1_aae02_6 rfl rfl 0 rfl ?_
  refine j_sgetc (q := 10) hC hj zw_1628 dJ0_isLatin1_aae02_7 rfl ?_
  refine j_if_ne (β := Unit) (r := ()) (X := none) (Y := some ()) (tgt := 17) (q := 13) hC dJ0_isLatin1_aae02_10 (by decide) rfl rfl (fun _ h => nomatch h) (fun _ _ => ?_)
  refine j_iconst (q := 14) (v := 1) hC dJ0_isLatin1_aae02_13 rfl (by decide) ?_
  refine j_goto (tgt := 18) hC dJ0_isLatin1_aae02_14 (by decide) ?_
  exact j_zret hC hR rfl dJ0_isLatin1_aae02_18 rfl rfl
def fJ_len (j : Nat) : Option Int32 := some (Int32.ofNat (zLn j) >>> ((0 : Int32) &&& 31))
set_option maxRecDepth 100000 in
theorem wJ_len (E : zE) {j : Nat} (hj : j < 25) (x : Int32) (hf : fJ_len j = some x) (l : Launch) (sz : Nat) : zM l yJ0_length_8abf5 cJ0_length_8abf5 1 (some .int) { frames := 1, cells := 0, slots := 0, locals := 20 } E [.ref (E.2.2.2.1 j)] [] sz (some (.int x)) [] := by
  refine zEnter (by decide) (Nat.le_of_ble_eq_true rfl) ?_
  intro C hC hR
  change zC C E cJ0_length_8abf5 "java/lang/String" 1 _ at hC
  refine j_sub (lv' := [(0, .ref (E.2.2.2.1 j))]) [0] rfl ?_
  refine j_aload_n (q := 1) hC dJ0_length_8abf5_0 rfl rfl 0 rfl ?_
  refine j_sgetv (q := 4) hC hj zw_1627 dJ0_length_8abf5_1 rfl ?_
  refine j_slen (q := 5) hC hj dJ0_length_8abf5_4 rfl ?_
  refine j_aload_n (q := 6) hC dJ0_length_8abf5_5 rfl rfl 0 rfl ?_
  refine j_callT (q := 9) (F := some ()) (K := some) (r := ()) hC hj [] [.int (Int32.ofNat (zLn j))] (fun _ => some (.int 0)) (fun _ => [.int 0, .int (Int32.ofNat (zLn j))]) rfl (fun _ _ => wJ_coder E hj) zy_J0_coder_7d493 rfl zw_330 (by unfold zRm; decide) rfl (Nat.le_of_ble_eq_true rfl) dJ0_length_8abf5_6 rfl rfl (fun _ => rfl) (fun _ _ => ?_)
  refine j_ishr (q := 10) (K := some) (r := x) hC dJ0_length_8abf5_9 rfl hf (fun z hz => ?_)
  obtain rfl := Option.some.inj hz
  exact j_iret hC hR dJ0_length_8abf5_10 rfl rfl
def fJ_chk (i n : Int32) : Option Unit := if i < 0 then none else if i < n then some () else none
set_option maxRecDepth 100000 in
theorem wJ_chk3 (E : zE) (i n : Int32) (v : Value) (hv : v = .null ∨ ∃ t, v = .ref t) (hf : fJ_chk i n = some ()) (l : Launch) (sz : Nat) : zM l yJ3_checkIndex_8e157 cJ3_checkIndex_8e157 3 (some .int) { frames := 0, cells := 0, slots := 0, locals := 0 } E [.int i, .int n, v] [] sz (some (.int i)) [] := by
  have hav : (lg_sl [.int i, .int n, v]).length ≤ 3 := by rcases hv with rfl | ⟨t, rfl⟩ <;> exact Nat.le_of_ble_eq_true rfl
  have hlv : lv_pick (lv_args 0 [.int i, .int n, v]) [0, 1] = [(0, .int i), (1, .int n)] := rfl
  refine zEnter (by decide) hav ?_
  intro C hC hR
  change zC C E cJ3_checkIndex_8e157 "jdk/internal/util/Preconditions" 3 _ at hC
  refine j_sub [0, 1] hlv ?_
  unfold fJ_chk at hf
  refine j_iload_n (q := 1) hC dJ3_checkIndex_8e157_0 rfl rfl 0 rfl ?_
  refine j_if_lt (tgt := 9) (q := 4) hC dJ3_checkIndex_8e157_1 (by decide) rfl hf (fun _ h => nomatch h) (fun _ hf => ?_)
  refine j_iload_n (q := 5) hC dJ3_checkIndex_8e157_4 rfl rfl 0 rfl ?_
  refine j_iload_n (q := 6) hC dJ3_checkIndex_8e157_5 rfl rfl 1 rfl ?_
  refine j_icmp_lt (tgt := 16) (q := 9) hC dJ3_checkIndex_8e157_6 (by decide) rfl hf (fun _ hf => ?_) (fun _ h => nomatch h)
  refine j_iload_n (q := 17) hC dJ3_checkIndex_8e157_16 rfl rfl 0 rfl ?_
  exact j_iret hC hR dJ3_checkIndex_8e157_17 rfl rfl
set_option maxRecDepth 100000 in
theorem wJ_chk (E : zE) (i n : Int32) (hf : fJ_chk i n = some ()) (l : Launch) (sz : Nat) : zM l yJ0_checkIndex_df160 cJ0_checkIndex_df160 2 none { frames := 1, cells := 0, slots := 0, locals := 22 } E [.int i, .int n] [] sz none [] := by
  refine zEnter (by decide) (Nat.le_of_ble_eq_true rfl) ?_
  intro C hC hR
  change zC C E cJ0_checkIndex_df160 "java/lang/String" 2 _ at hC
  refine j_sub (lv' := [(0, .int i), (1, .int n)]) [0, 1] rfl ?_
  refine j_iload_n (q := 1) hC dJ0_checkIndex_df160_0 rfl rfl 0 rfl ?_
  refine j_iload_n (q := 2) hC dJ0_checkIndex_df160_1 rfl rfl 1 rfl ?_
  refine j_getq (q := 5) hC zw_350 dJ0_checkIndex_df160_2 rfl (fun v hv => ?_)
  refine j_callS (q := 8) (F := some ()) (K := some) (r := ()) hC [.int i, .int n, v] [] (fun _ => some (.int i)) (fun _ => []) (fun _ => []) (fun _ => [.int i]) [] [] rfl (fun _ _ => wJ_chk3 E i n v hv hf) zy_J3_checkIndex_8e157 zw_352 (by unfold zRm; decide) rfl rfl (fun _ => rfl) (N := 0) (by decide) (fun _ => ⟨rfl, rfl, rfl⟩) rfl (Nat.le_of_ble_eq_true rfl) dJ0_checkIndex_df160_5 rfl rfl (fun _ => rfl) (fun _ _ => ?_)
  refine j_pop (q := 9) hC dJ0_checkIndex_df160_8 rfl rfl ?_
  exact j_vret hC hR dJ0_checkIndex_df160_9 rfl rfl
def fJ_charAt (j : Nat) (i : Int32) : Option Int32 := (fJ_chk i (Int32.ofNat (zLn j))).bind fun _ => zald (zBy j) (zLn j) i fun b => some (b &&& 255)
set_option maxRecDepth 100000 in
theorem wJ_charAt1 (E : zE) {j : Nat} (hj : j < 25) (i : Int32) (x : Int32) (hf : fJ_charAt j i = some x) (l : Launch) (sz : Nat) : zM l yJ1_charAt_3b067 cJ1_charAt_3b067 2 (some .char) { frames := 2, cells := 0, slots := 0, locals := 43 } E [.ref (E.2.2.2.2 j), .int i] [] sz (some (.int x)) [] := by
  refine zEnter (by decide) (Nat.le_of_ble_eq_true rfl) ?_
  intro C hC hR
  change zC C E cJ1_charAt_3b067 "java/lang/StringLatin1" 2 _ at hC
  refine j_sub (lv' := [(0, .ref (E.2.2.2.2 j)), (1, .int i)]) [0, 1] rfl ?_
  unfold fJ_charAt at hf
  refine j_iload_n (q := 1) hC dJ1_charAt_3b067_0 rfl rfl 1 rfl ?_
  refine j_aload_n (q := 2) hC dJ1_charAt_3b067_1 rfl rfl 0 rfl ?_
  refine j_slen (q := 3) hC hj dJ1_charAt_3b067_2 rfl ?_
  refine j_callS (q := 6) hC [.int i, .int (Int32.ofNat (zLn j))] [] (fun _ : Unit => none) (fun _ => []) (fun _ => []) (fun _ => []) [] [] hf (fun _ hx => wJ_chk E i _ hx) zy_J0_checkIndex_df160 zw_347 (by unfold zRm; decide) rfl rfl (fun _ => rfl) (N := 0) (by decide) (fun _ => ⟨rfl, rfl, rfl⟩) rfl (Nat.le_of_ble_eq_true rfl) dJ1_charAt_3b067_3 rfl rfl (fun _ => rfl) (fun _ hf => ?_)
  refine j_aload_n (q := 7) hC dJ1_charAt_3b067_6 rfl rfl 0 rfl ?_
  refine j_iload_n (q := 8) hC dJ1_charAt_3b067_7 rfl rfl 1 rfl ?_
  refine j_sbald (q := 9) hC hj dJ1_charAt_3b067_8 rfl hf (fun b hf => ?_)
  refine j_sipush (q := 12) (v := 255) hC dJ1_charAt_3b067_9 rfl (by decide) ?_
  refine j_iand (q := 13) (K := some) (r := b &&& 255) hC dJ1_charAt_3b067_12 rfl rfl (fun z hz => ?_)
  obtain rfl := Option.some.inj hz
  refine j_i2c (q := 14) (K := some) (r := b &&& 255) hC dJ1_charAt_3b067_13 rfl (congrArg some (sc_c2 b)) (fun z hz => ?_)
  obtain rfl := Option.some.inj hz
  obtain rfl := Option.some.inj hf
  exact j_zret hC hR (sc_nar b) dJ1_charAt_3b067_14 rfl rfl
theorem zch_n {j : Nat} {i x : Int32} (hf : fJ_charAt j i = some x) : narrow .char (.int x) = .int x := by
  unfold fJ_charAt at hf
  obtain ⟨_, -, hf⟩ := zbd_s hf
  have h := (zald_s hf).2
  obtain rfl := Option.some.inj h
  exact sc_nar _
set_option maxRecDepth 100000 in
theorem wJ_charAt (E : zE) {j : Nat} (hj : j < 25) (i : Int32) (x : Int32) (hf : fJ_charAt j i = some x) (l : Launch) (sz : Nat) : zM l yJ0_charAt_5068e cJ0_charAt_5068e 2 (some .char) { frames := 3, cells := 0, slots := 0, locals := 64 } E [.ref (E.2.2.2.1 j), .int i] [] sz (some (.int x)) [] := by
  refine zEnter (by decide) (Nat.le_of_ble_eq_true rfl) ?_
  intro C hC hR
  change zC C E cJ0_charAt_5068e "java/lang/String" 2 _ at hC
  refine j_sub (lv' := [(0, .ref (E.2.2.2.1 j)), (1, .int i)]) [0, 1] rfl ?_
  refine j_aload_n (q := 1) hC dJ0_charAt_5068e_0 rfl rfl 0 rfl ?_
  refine j_callT (q := 4) (F := some ()) (K := some) (r := ()) hC hj [] [] (fun _ => some (.int 1)) (fun _ => [.int 1]) rfl (fun _ _ => wJ_isLatin1 E hj) zy_J0_isLatin1_aae02 rfl zw_340 (by unfold zRm; decide) rfl (Nat.le_of_ble_eq_true rfl) dJ0_charAt_5068e_1 rfl rfl (fun _ => rfl) (fun _ _ => ?_)
  refine j_if_eq (β := Unit) (r := ()) (X := none) (Y := some ()) (tgt := 16) (q := 7) hC dJ0_charAt_5068e_4 (by decide) rfl rfl (fun _ h => nomatch h) (fun _ _ => ?_)
  refine j_aload_n (q := 8) hC dJ0_charAt_5068e_7 rfl rfl 0 rfl ?_
  refine j_sgetv (q := 11) hC hj zw_1627 dJ0_charAt_5068e_8 rfl ?_
  refine j_iload_n (q := 12) hC dJ0_charAt_5068e_11 rfl rfl 1 rfl ?_
  refine j_callS (q := 15) (F := some ()) (K := some) (r := ()) hC [.ref (E.2.2.2.2 j), .int i] [] (fun _ => some (.int x)) (fun _ => []) (fun _ => []) (fun _ => [.int x]) [] [] rfl (fun _ _ => wJ_charAt1 E hj i x hf) zy_J1_charAt_3b067 zw_344 (by unfold zRm; decide) rfl rfl (fun _ => rfl) (N := 0) (by decide) (fun _ => ⟨rfl, rfl, rfl⟩) rfl (Nat.le_of_ble_eq_true rfl) dJ0_charAt_5068e_12 rfl rfl (fun _ => rfl) (fun _ _ => ?_)
  exact j_zret hC hR (zch_n hf) dJ0_charAt_5068e_15 rfl rfl
