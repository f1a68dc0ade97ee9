/-! ===== the law's own method led: its table, its answers ===== -/
abbrev ytH : List (Nat × Nat × Nat × Nat) := [(0, 9, 12, 13)]
abbrev ytRm2 : Room := { frames := 7, cells := 1, slots := 6, locals := 113 }
abbrev ytO (E : zE) (q0 q1 q2 o : Nat) (fs gs : List Value) (d : Nat → Int32) (f : Nat → Int64) : va_W := ytW E q0 q1 q2 fs gs d ++ zO E o f
/-- the launch, the throw's premises of a walk -/
def zThD (C : zX) : Prop := match C with
  | (_, l, _, _, s, _, _, _, _, _, A, _, _, _) => zTh A s s.heap ∧ l.stackTraces = false
def zMT (l : Launch) (E : zE) (av : List Value) (ws : va_W) (sz : Nat) (V : Option Value) (Wd : va_W) : Prop := Met l yL_led (Cond.codeWith yL_led cL_led 4 (some .int) ytH :: zW) ytRm2 (va_Pc av (zPreT E ws sz)) (zQ E.1 (va_A ws sz) Wd V) 1 6 (va_A ws sz)
theorem ytEnter {l : Launch} {E : zE} {av : List Value} {ws : va_W} {sz : Nat} {V : Option Value} {Wd : va_W} (hlt : l.stackTraces = false) (hav : (lg_sl av).length ≤ 4)
    (h : ∀ C : zX, zC C E cL_led RL 4 ytRm2 → zR C (some .int) 1 6 V Wd → zThC C ytH → J C 0 0 ws (lv_args 0 av) 0 []) : zMT l E av ws sz V Wd := by
  refine va_MetW (cc := cL_led) (maxL := 4) (ret := some .int) (hh := ytH) (by decide) rfl ?_
  intro p e s m args below meth c s₁ B hml hv
  obtain ⟨rfl, ⟨hsz, hP, hD0, hG⟩, hT⟩ := hv
  subst hsz
  have hts := atoms_spec (ws := Cond.codeWith yL_led cL_led 4 (some .int) ytH :: zW) B.pre
  have hown : s.vm.findClass yL_led.cls = some m.cls := findClass_of_methodNamed B.named
  have hl := lv_entry av (n := 4) hav
  rw [lg_entry_eq]
  exact h (p, l, e, ytRm2, s, m, av.toArray, below, meth, c, va_A ws s.heap.size, 4, E.1, _) ⟨B.exec, B.bytes, hml, hown, fun w hw => hts w (List.mem_cons_of_mem _ hw), hG, fun q hq => Or.inr hq, rfl, rfl, rfl⟩ ⟨B.notSynchronized, B.returns, rfl⟩ ⟨hT, hlt, vx_table (x := yL_led) B (hts _ List.mem_cons_self), B.notSynchronized⟩ s.heap [] _ hP hD0.self va_S.rf hl
theorem yw_link : Cond.methodLink RL 216 yL_led ∈ zW := zT 818 (by decide +kernel) (by decide +kernel)
theorem yw_stat : Cond.static yL_led ∈ zW := zT 819 (by decide +kernel) (by decide +kernel)
theorem yw_code : Cond.codeWith yL_led cL_led 4 (some .int) ytH ∈ zW := zT 820 (by decide +kernel) (by decide +kernel)
theorem yw_cls : Cond.classLink RL 13 ytN ∈ zW := zT 821 (by decide +kernel) (by decide +kernel)
theorem yw_link2 : Cond.methodLink RL 7 yX5_led ∈ zW := zT 822 (by decide +kernel) (by decide +kernel)
theorem yw_inst : Cond.instanceMethod yX5_led ∈ zW := zT 823 (by decide +kernel) (by decide +kernel)
theorem yw_sel : Cond.selects RX5 yX5_led yX5_led ∈ zW := zT 824 (by decide +kernel) (by decide +kernel)
theorem yw_code2 : Cond.code yX5_led cX5_led 4 (some .int) ∈ zW := zT 825 (by decide +kernel) (by decide +kernel)
theorem yw_ini : Cond.initialized RL ∈ zW := zT 0 (by decide +kernel) (by decide +kernel)
theorem zy_X5_led : zYv yX5_led cX5_led 4 (some .int) 1 := ⟨yw_code2, yw_inst, yw_sel, zw_1, ⟨by decide, by decide, by decide +kernel⟩⟩
theorem ytGood : GoodIn zW (va_wsS RL 216 yL_led (Cond.codeWith yL_led cL_led 4 (some .int) ytH :: zW)) := fun w hw => by
  unfold va_wsS at hw
  rcases List.mem_append.mp hw with h | h
  · simp only [List.mem_cons, List.not_mem_nil, or_false] at h
    rcases h with rfl | rfl | rfl
    · exact ⟨yw_link, good_of_word (List.mem_filter.mp yw_link).2⟩
    · exact ⟨yw_stat, good_of_word (List.mem_filter.mp yw_stat).2⟩
    · exact ⟨yw_ini, good_of_word (List.mem_filter.mp yw_ini).2⟩
  · exact zGood' yw_code w h
theorem k_lawR (E : zE) (q0 q1 q2 o : Nat) (fs gs : List Value) (d : Nat → Int32) (f : Nat → Int64) (a1 : Int32) (hfs : fs[6]? = some (.ref q1)) (hgs : gs[9]? = some (.ref q2)) (v : Nat) (hv : zfa a1 0 (ytR d 0 32) = some v) (l : Launch) (hlt : l.stackTraces = false) (sz : Nat) : zMT l E [.ref q0, .int a1, .ref o] (ytO E q0 q1 q2 o fs gs d f) sz (some (.int 0)) (ytO E q0 q1 q2 o fs gs d (vp_updL f 0 (nI v).toInt64)) := by
  refine ytEnter hlt (Nat.le_of_ble_eq_true rfl) ?_
  intro C hC hR hT
  refine j_sub (lv' := [(0, .ref q0), (1, .int a1), (2, .ref o)]) [0, 1, 2] rfl ?_
  refine j_aload_n (q := 1) hC dL_led_0 rfl rfl 2 rfl ?_
  refine j_iconst (q := 2) (v := 0) hC dL_led_1 rfl (by decide) ?_
  refine j_aload_n (q := 3) hC dL_led_2 rfl rfl 0 rfl ?_
  refine j_iload_n (q := 4) hC dL_led_3 rfl rfl 1 rfl ?_
  refine j_callVT (N := 3) (ws := ytW E q0 q1 q2 fs gs d) (T := zO E o f) hC [.int a1] [.int 0, .ref o] (some (.int (nI v))) (ytW E q0 q1 q2 fs gs d) (ytW E q0 q1 q2 fs gs d) [0, 1, 2] [] (fun l sz => k_ledR E q0 q1 q2 fs gs d a1 hfs hgs v hv l sz) zy_X5_led yw_link2 ⟨rfl, rfl, by decide, by decide, by decide, by decide⟩ rfl (by decide) rfl (by decide) ⟨rfl, rfl, rfl⟩ rfl rfl rfl rfl (Nat.le_of_ble_eq_true rfl) dL_led_4 rfl rfl ?_
  show J C 0 0 (ytW E q0 q1 q2 fs gs d ++ zO E o f) [(0, .ref q0), (1, .int a1), (2, .ref o)] 7 [.int (nI v), .int 0, .ref o]
  refine j_i2l (q := 8) (K := some) (r := (nI v).toInt64) hC dL_led_7 rfl rfl (fun z hz => ?_)
  cases hz
  have hf : zlast f 1 0 (nI v).toInt64 some = some (vp_updL f 0 (nI v).toInt64) := by
    unfold zlast
    rw [if_neg (by decide)]
    rfl
  refine j_last (q := 9) hC (fun g => ytW E q0 q1 q2 fs gs d ++ zO E o g) 3 rfl (fun g => rfl) dL_led_8 rfl hf (fun g hg => ?_)
  cases hg
  refine j_goto (tgt := 15) hC dL_led_9 (by decide) ?_
  refine j_iconst (q := 16) (v := 0) hC dL_led_15 rfl (by decide) ?_
  refine j_widen (k' := 1) (n' := 6) (by decide) (by decide) ?_
  exact j_iret hC hR dL_led_16 rfl rfl
theorem k_lawT (E : zE) (q0 q1 q2 o : Nat) (fs gs : List Value) (d : Nat → Int32) (f : Nat → Int64) (a1 : Int32) (hfs : fs[6]? = some (.ref q1)) (hgs : gs[9]? = some (.ref q2)) (hv : zfa a1 0 (ytR d 0 32) = none) (l : Launch) (hlt : l.stackTraces = false) (sz : Nat) : zMT l E [.ref q0, .int a1, .ref o] (ytO E q0 q1 q2 o fs gs d f) sz (some (.int 1)) (ytO E q0 q1 q2 o fs gs d f) := by
  refine ytEnter hlt (Nat.le_of_ble_eq_true rfl) ?_
  intro C hC hR hT
  refine j_sub (lv' := [(0, .ref q0), (1, .int a1), (2, .ref o)]) [0, 1, 2] rfl ?_
  refine j_aload_n (q := 1) hC dL_led_0 rfl rfl 2 rfl ?_
  refine j_iconst (q := 2) (v := 0) hC dL_led_1 rfl (by decide) ?_
  refine j_aload_n (q := 3) hC dL_led_2 rfl rfl 0 rfl ?_
  refine j_iload_n (q := 4) hC dL_led_3 rfl rfl 1 rfl ?_
  have kh : ∀ q9 : Nat, J C 1 6 (ytW E q0 q1 q2 fs gs d ++ zO E o f) [(0, .ref q0), (1, .int a1), (2, .ref o)] 12 [.ref q9] := fun q9 => by
    refine j_astore_n (q := 13) (lv' := [(3, .ref q9), (0, .ref q0), (1, .int a1), (2, .ref o)]) hC dL_led_12 rfl rfl (by decide) rfl ?_
    refine j_iconst (q := 14) (v := 1) hC dL_led_13 rfl (by decide) ?_
    exact j_iret hC hR dL_led_14 rfl rfl
  obtain ⟨p, l', e, R, s, m, args, below, meth, c, A, nL', D, Q⟩ := C
  obtain ⟨hx, hb, hml, hown, hts, hG, hA, rfl, rfl, rfl⟩ := hC
  obtain ⟨hT, hlt', htab, hlk⟩ := hT
  intro H locs ls hP hD hS hl
  have hCe : ([0, 1, 2] : List Nat).map (fun i => (ytW E q0 q1 q2 fs gs d ++ zO E o f)[i]?) = (ytW E q0 q1 q2 fs gs d).map some := rfl
  have hF := va_free (wc := ytW E q0 q1 q2 fs gs d) hD hS hA [0, 1, 2] hCe
  have hPc : va_P E.1 vwCl (ytW E q0 q1 q2 fs gs d) H := fun k q hq => by
    obtain ⟨i, -, h2⟩ := zmap_at hCe hq
    exact hP i q h2
  have hrc := va_recv hG.1 hPc (ci := 4) (q0 := 0) (q := (RX5, TX5, 12)) rfl rfl
  have hpre : ∀ U : State, U.heap = H → s.WarmedH U.vm → va_Pc [.ref q0, .int a1] (zPreT E (ytW E q0 q1 q2 fs gs d) H.size) ([.ref q0, .int a1] : List Value).toArray U := fun U hU hW =>
    ⟨rfl, (zprep (av := [.ref q0, .int a1]) hG hP hD hS hA hCe (by decide) U hU hW).2, by rw [hU]; exact hT.step hW hS.2.1 hF⟩
  have hrun := vx_runV (R := ytRm2) (cells := 0) (slots := 0) (e := e) (below := below) (meth := meth) (locs := locs) (g := F0 m 4 ls [.int a1, .ref q0, .int 0, .ref o]) (rest := [.int 0, .ref o]) (C := RX5) (b := q0) (As := [.int a1]) ⟨hx, hb, hml, hown, hts⟩ (k_ledT E q0 q1 q2 fs gs d a1 hfs hgs hv l' hlt' H.size)
    ⟨callB_of 1 hts (zGood' yw_code2) rfl rfl rfl (hts _ zw_1) (hts _ yw_link2) zy_X5_led.2.2.2.2 ⟨by decide, by decide⟩, hts _ yw_inst, hts _ yw_sel⟩
    ⟨zPreT_blind, hrc, hpre⟩ rfl rfl hl.1 rfl (lv_room (Nat.le_of_ble_eq_true rfl)) dL_led_4 ⟨by decide, by decide⟩
  refine vx_calli hrun hS (fun q _ h => hF q h) hF (fun q _ h => hF q h) (fun Ex ce q9 u t H1 locs1 ht _ _ hBX _ hk hS1 hce hcv hcl => ?_) (fun r u t H1 locs1 _ _ hp _ _ _ _ => absurd hp id)
  obtain ⟨rfl, hP1⟩ := hBX
  rw [ht] at hP1
  have hcw : Cond.castable ytN ytN ∈ ytB := by simp [ytB]
  refine vx_catch (own := RL) (name := ytN) hown [] ⟨0, 9, 12, 13⟩ [] htab (fun z hz => nomatch hz) (by decide) (by decide) (hts _ yw_cls) (va_any (ytB_ot _ hcw) (hT.2.2 _ hcw)) hce hcv hcl ?_
  exact kh q9 H1 locs1 ls (zput_P (ws' := ytW E q0 q1 q2 fs gs d ++ zO E o f) (zNewW.of (isR := [3]) (N := 4) (by decide) ⟨rfl, rfl, rfl⟩) hP hD hCe rfl hP1 hk) hD hS1 hl
section YTK
variable {p : Program} {l : Launch} {e : Env} {R : Room} {s : State} {m : MethodId} {args : Array Value} {below : List Frame} {meth : Method} {c : Code} {H : Heap} {locs : List Loc} {cells slots mc ms : Nat} {Q : State → Prop}
theorem zcallG {D : va_G} {A : Nat → Prop} {ws wc wd ws' : va_W} {is : List Nat} {pc : Nat} {ls : Array Slot} {rest st0 : List Value} {a : Array Value} {V : Option Value} (hr : va_Run p l e R s m args below meth c H locs cells slots mc ms (F0 m pc ls st0) rest (zQ D (va_A wc H.size) wd V a) (va_A wc H.size)) (hP : va_P D vwCl ws H) (hD : va_D A ws) (hS : va_S A s.heap H locs) (hA : ∀ q, s.heap.size ≤ q → A q)
    (h : is.map (fun i => ws[i]?) = wc.map some) (hf : wd.map Prod.fst = wc.map Prod.fst) (hnw : zNewW ws is wd ws')
    (kk : ∀ (H1 : Heap) (locs1 : List Loc), va_P D vwCl ws' H1 → va_D A ws' → va_S A s.heap H1 locs1 → W p l e R s m args below meth c H1 locs1 (cells + mc) (slots + ms) Q (F0 m (pc + 3) ls (V.toList ++ rest))) : W p l e R s m args below meth c H locs cells slots Q (F0 m pc ls st0) := by
  intro T hT X
  obtain ⟨v, st₀, t, T', L, h0, X', hL, e1, e2, ⟨hv, hP1, hz, hk⟩, st⟩ := hr T hT X
  cases hv
  rw [h0] at hz hk
  have hF := va_free (wc := wc) hD hS hA is h
  have hk' : ∀ q : Nat, q < H.size → ¬ va_A wc H.size q → T'.heap[q]? = H[q]? := fun q h1 h2 => by rw [e1]; exact hk q h1 h2
  obtain ⟨t2, a1, b1⟩ := kk T'.heap (locs ++ L) (zput_P hnw hP hD h hf (by rw [e1]; exact hP1) hk') (zput_D hnw hD h hf)
    ⟨Nat.le_trans hS.1 (by rw [e1]; exact hz), fun q h1 h2 => by rw [hk' q (Nat.lt_of_lt_of_le h1 hS.1) (fun z => h2 (hF q z))]; exact hS.2.1 q h1 h2, fun q hq => by
      rcases List.mem_append.mp hq with h | h
      · exact hS.2.2 q h
      · exact hF _ (hL q h)⟩ T' rfl X'
  exact ⟨t2, st t2 a1, b1⟩
end YTK
abbrev ytF (q : Nat → Nat) (s : Nat → Int32) : List Value := [.ref (q 1), .int (s 0), .ref (q 2), .ref (q 11), .int (s 1), .ref (q 20), .ref (q 21), .ref (q 28), .ref (q 35), .ref (q 46), .int (s 2), .int (s 3)]
abbrev ytG (q : Nat → Nat) (s : Nat → Int32) : List Value := [.int (s 29), .int (s 30), .int (s 31), .int (s 32), .ref (q 22), .ref (q 23), .ref (q 24), .ref (q 25), .ref (q 26), .ref (q 27), .int (s 33), .int (s 34), .int (s 35), .int (s 36)]
set_option maxRecDepth 20000 in
theorem j_callLed {C : zX} {E : zE} {k n : Nat} {lv : List (Nat × Value)} {q : Nat → Nat} {s : Nat → Int32} {a : Nat → Nat → Int32} {g : Nat → Option Nat} {vt vd : Value} {T : va_W} {o : Nat} {f f' : Nat → Int64} {a1 r : Int32} (hC : zC C E cL_law RL 7 room_1) (hT : zThD C)
    (hM : ∀ l : Launch, l.stackTraces = false → ∀ sz, zMT l E [.ref (q 0), .int a1, .ref o] (ytO E (q 0) (q 21) (q 27) o (ytF q s) (ytG q s) (a 27) f) sz (some (.int r)) (ytO E (q 0) (q 21) (q 27) o (ytF q s) (ytG q s) (a 27) f'))
    (hk : k + 1 ≤ 601024) (hn : n + 6 ≤ 7293034)
    (kk : J C (k + 1) (n + 6) ((zO E o f' ++ WX E q s a g vt vd) ++ T) lv 1509 [.int r]) : J C k n ((zO E o f ++ WX E q s a g vt vd) ++ T) lv 1506 [.ref o, .int a1, .ref (q 0)] := by
  obtain ⟨p, l, e, R, st, m, args, below, meth, c, A, nL', D, Q⟩ := C
  obtain ⟨hx, hb, hml, hown, hts, hG, hA, rfl, rfl, rfl⟩ := hC
  obtain ⟨hT, hlt⟩ := hT
  intro H locs ls hP hD hS hl
  have hCe : ([1, 22, 28, 0] : List Nat).map (fun i => (zO E o f ++ WX E q s a g vt vd)[i]?) = (ytO E (q 0) (q 21) (q 27) o (ytF q s) (ytG q s) (a 27) f).map some := rfl
  have hCe' := zCe_app (T := T) hCe
  have hF := va_free (wc := ytO E (q 0) (q 21) (q 27) o (ytF q s) (ytG q s) (a 27) f) hD hS hA [1, 22, 28, 0] hCe'
  have hpre : ∀ U : State, U.heap = H → st.WarmedH U.vm → va_Pc [.ref (q 0), .int a1, .ref o] (zPreT E (ytO E (q 0) (q 21) (q 27) o (ytF q s) (ytG q s) (a 27) f) H.size) ([.ref (q 0), .int a1, .ref o] : List Value).toArray U := fun U hU hW =>
    ⟨rfl, (zprep (av := [.ref (q 0), .int a1, .ref o]) hG hP hD hS hA hCe' (by decide) U hU hW).2, by rw [hU]; exact hT.step hW hS.2.1 hF⟩
  have hrun := vx_runSW (R := room_1) (cells := k) (slots := n) (e := e) (below := below) (meth := meth) (locs := locs) (g := F0 m 1506 ls [.ref o, .int a1, .ref (q 0)]) (rest := []) (As := [.ref (q 0), .int a1, .ref o]) ⟨hx, hb, hml, hown, hts⟩ (hM l hlt H.size)
    (vx_cwSW 3 hts ytGood rfl rfl rfl ⟨by decide, by decide, by decide +kernel⟩ ⟨by decide, by decide⟩) ⟨zPreT_blind, hpre⟩ rfl rfl hl.1 rfl (lv_room (Nat.le_of_ble_eq_true rfl)) dL_law_1506 ⟨hk, hn⟩
  exact zcallG hrun hP hD hS hA hCe' rfl (zNewW_app (ws' := zO E o f' ++ WX E q s a g vt vd) (zCe_lt hCe) rfl (zNewW.of (isR := [2, 3, 4, 5, 6, 7, 8, 9, 10, 11, 12, 13, 14, 15, 16, 17, 18, 19, 20, 21, 23, 24, 25, 26, 27, 29, 30, 31, 32, 33, 34, 35, 36, 37, 38, 39, 40, 41, 42, 43, 44, 45, 46, 47]) (N := 48) (by decide) ⟨rfl, rfl, rfl⟩)) fun H1 locs1 hP1 hD1 hS1 => kk H1 locs1 ls hP1 hD1 hS1 hl
