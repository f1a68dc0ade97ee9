/-! ===== led: its loop, its answer, its throw ===== -/
def ytRx : ByteArray := ⟨#[0x2a, 0x2b, 0xb7, 0x00, 0x0d, 0xb1]⟩
abbrev ytN : String := "java/util/NoSuchElementException"
def ytB : List Cond := [.declares (Bundle.initS "java/lang/RuntimeException"), .declares (Bundle.initS "java/lang/Exception"), .declares (Bundle.initS Bundle.tN), .castable ytN ytN]
abbrev ytL : List Cond := yt_atX "PackedCache" 278 ytN 13 ytRx ["java/lang/RuntimeException", "java/lang/Exception"]
theorem ytL_good : ∀ w ∈ ytL.filter goodWord, w ∈ tables_1 := by decide +kernel
theorem ytL_rest : ∀ w ∈ ytL.filter (fun w => !goodWord w), w ∈ ytB := by decide +kernel
theorem ytL_ot : ∀ w ∈ ytL, vx_ot w = true := by decide +kernel
theorem ytB_tab : ∀ w ∈ ytB, w ∈ tables_1 := by decide +kernel
theorem ytB_ot : ∀ w ∈ ytB, w.onTables = true := by decide +kernel
/-- what a throw needs of the start -/
def zTh (A : Nat → Prop) (U : State) (H : Heap) : Prop := vx_Zq Bundle.tN "UNASSIGNED_STACK" Bundle.steD A U H ∧ vx_Zq Bundle.tN "SUPPRESSED_SENTINEL" Bundle.listD A U H ∧ ∀ w ∈ ytB, va_Nw w U
theorem ytB_warm {s U : State} (hW : s.WarmedH U.vm) (h : ∀ w ∈ ytB, va_Nw w s) : ∀ w ∈ ytB, va_Nw w U := by
  intro w hw
  have h0 := h w hw
  simp only [ytB, List.mem_cons, List.not_mem_nil, or_false] at hw
  rcases hw with rfl | rfl | rfl | rfl
  · exact va_Nw.warmD hW h0
  · exact va_Nw.warmD hW h0
  · exact va_Nw.warmD hW h0
  · exact va_Nw.warmC hW h0
theorem zTh.step {A B : Nat → Prop} {s U : State} {H0 H : Heap} (h : zTh A s H0) (hW : s.WarmedH U.vm) (hk : ∀ a : Nat, a < H0.size → ¬ A a → H[a]? = H0[a]?) (hAB : ∀ q, B q → A q) : zTh B U H :=
  ⟨vx_Zq.moved hW.alike ((h.1.kept hk).narrow hAB), vx_Zq.moved hW.alike ((h.2.1.kept hk).narrow hAB), ytB_warm hW h.2.2⟩
theorem zTh.same {A : Nat → Prop} {s U : State} {H : Heap} (h : zTh A s H) (hv : s.vm = U.vm) : zTh A U H := by
  have hal : s.vm.Alike U.vm := by rw [hv]; exact Vm.Alike.refl _
  exact ⟨vx_Zq.moved hal h.1, vx_Zq.moved hal h.2.1, fun w hw => va_tabs (ytB_ot w hw) hv (h.2.2 w hw)⟩
def zPreT (E : zE) (ws : va_W) (sz : Nat) (U : State) : Prop := zPre E ws sz U ∧ zTh (va_A ws sz) U U.heap
theorem zPreT_blind {E : zE} {ws : va_W} {sz : Nat} {av : List Value} : FrameBlind (va_Pc av (zPreT E ws sz)) := by
  intro a U g mk h
  obtain ⟨h0, ⟨h1, h2, h3, h4⟩, h5⟩ := h
  exact ⟨h0, ⟨h1, h2, h3, zG.same h4 rfl⟩, zTh.same h5 rfl⟩
/-- the launch, the table, the throw's premises of a walk -/
def zThC (C : zX) (hh : List (Nat × Nat × Nat × Nat)) : Prop := match C with
  | (_, l, _, _, s, _, _, _, meth, c, A, _, _, _) => zTh A s s.heap ∧ l.stackTraces = false ∧ c.exceptionTable.toList = tableOf hh ∧ meth.locks = false
section YTJ
variable {C : zX} {E : zE} {cc : ByteArray} {own : String} {nL : Nat} {rm : Room} {k n : Nat} {ws : va_W} {lv : List (Nat × Value)} {pc q : Nat} {st : List Value}
theorem j_geT (hC : zC C E cc own nL rm) {x y : Int32} (h : y ≤ x) {off : Int} {tgt : Nat} (hd : decode cc pc = .ok (.if_icmp .ge off, 3)) (ht : (pc : Int) + off = (tgt : Int)) (kk : J C k n ws lv tgt st) : J C k n ws lv pc (.int y :: .int x :: st) :=
  j_icmp_ge (q := pc + 3) (X := some ()) (Y := none) (r := ()) hC hd ht rfl (if_pos h) (fun _ _ => kk) (fun h2 _ => absurd h h2)
theorem j_geF (hC : zC C E cc own nL rm) {x y : Int32} (h : ¬ y ≤ x) {off : Int} {tgt : Nat} (hd : decode cc pc = .ok (.if_icmp .ge off, 3)) (ht : (pc : Int) + off = (tgt : Int)) (hq : pc + 3 = q) (kk : J C k n ws lv q st) : J C k n ws lv pc (.int y :: .int x :: st) :=
  j_icmp_ge (q := q) (X := none) (Y := some ()) (r := ()) hC hd ht hq (if_neg h) (fun h2 _ => absurd h2 h) (fun _ _ => kk)
theorem j_nT (hC : zC C E cc own nL rm) {x y : Int32} (h : ¬ x = y) {off : Int} {tgt : Nat} (hd : decode cc pc = .ok (.if_icmp .ne off, 3)) (ht : (pc : Int) + off = (tgt : Int)) (kk : J C k n ws lv tgt st) : J C k n ws lv pc (.int y :: .int x :: st) :=
  j_icmp_ne (q := pc + 3) (X := some ()) (Y := none) (r := ()) hC hd ht rfl (if_neg h) (fun _ _ => kk) (fun h2 _ => absurd h2 h)
theorem j_nF (hC : zC C E cc own nL rm) {x y : Int32} (h : x = y) {off : Int} {tgt : Nat} (hd : decode cc pc = .ok (.if_icmp .ne off, 3)) (ht : (pc : Int) + off = (tgt : Int)) (hq : pc + 3 = q) (kk : J C k n ws lv q st) : J C k n ws lv pc (.int y :: .int x :: st) :=
  j_icmp_ne (q := q) (X := none) (Y := some ()) (r := ()) hC hd ht hq (if_pos h) (fun h2 _ => absurd h h2) (fun _ _ => kk)
end YTJ
abbrev ytR (d : Nat → Int32) (i m : Nat) : List Nat := zrun (fun l => decide (d l = 1)) i m
abbrev ytW (E : zE) (q0 q1 q2 : Nat) (fs gs : List Value) (d : Nat → Int32) : va_W := [(q0, .inr (4, fs)), (q1, .inr (2, gs)), (q2, .inl (E.2.1 0, 32, .inl d))]
theorem led_loop {C : zX} {E : zE} {rm : Room} {k n q0 q1 q2 : Nat} {fs gs : List Value} {d : Nat → Int32} {a1 : Int32} (hC : zC C E cX5_led RX5 4 rm) (hfs : fs[6]? = some (.ref q1)) (hgs : gs[9]? = some (.ref q2)) :
    ∀ (m l c : Nat), l + m = 32 → (∀ v cv, zfa a1 c (ytR d l m) = some v → J C k n (ytW E q0 q1 q2 fs gs d) [(0, .ref q0), (1, .int a1), (2, .int cv), (3, .int (nI v))] 28 []) → (zfa a1 c (ytR d l m) = none → ∀ lv, J C k n (ytW E q0 q1 q2 fs gs d) lv 39 []) → J C k n (ytW E q0 q1 q2 fs gs d) [(0, .ref q0), (1, .int a1), (2, .int (nI c)), (3, .int (nI l))] 4 [] := by
  intro m
  induction m with
  | zero =>
    intro l c hl _ kt
    have hl : l = 32 := by omega
    subst hl
    refine j_iload_n (q := 5) hC dX5_led_4 rfl rfl 3 rfl ?_
    refine j_bipush (q := 7) (v := 32) hC dX5_led_5 rfl (by decide) ?_
    exact j_geT (tgt := 39) hC (by decide) dX5_led_7 (by decide) (kt rfl _)
  | succ m ih =>
    intro l c hl kr kt
    have hl2 : l < 32 := by omega
    have step : ∀ c', (∀ v cv, zfa a1 c' (ytR d (l + 1) m) = some v → J C k n (ytW E q0 q1 q2 fs gs d) [(0, .ref q0), (1, .int a1), (2, .int cv), (3, .int (nI v))] 28 []) → (zfa a1 c' (ytR d (l + 1) m) = none → ∀ lv, J C k n (ytW E q0 q1 q2 fs gs d) lv 39 []) → J C k n (ytW E q0 q1 q2 fs gs d) [(0, .ref q0), (1, .int a1), (2, .int (nI c')), (3, .int (nI l))] 33 [] := by
      intro c' h1 h2
      refine j_iinc (q := 36) (v := 1) (K := some) (r := nI l + 1) hC (fun w => [(3, .int w), (0, .ref q0), (1, .int a1), (2, .int (nI c'))]) dX5_led_33 rfl 3 rfl (by decide) (by decide) (fun w => rfl) rfl (fun w hw => ?_)
      cases hw
      rw [nI_1]
      refine j_goto (tgt := 4) hC dX5_led_36 (by decide) ?_
      exact j_sub (lv' := [(0, .ref q0), (1, .int a1), (2, .int (nI c')), (3, .int (nI (l + 1)))]) [1, 2, 3, 0] rfl (ih (l + 1) c' (by omega) h1 h2)
    refine j_iload_n (q := 5) hC dX5_led_4 rfl rfl 3 rfl ?_
    refine j_bipush (q := 7) (v := 32) hC dX5_led_5 rfl (by decide) ?_
    refine j_geF (tgt := 39) (q := 10) hC (nI_ge (a := l) (b := 32) hl2 (by decide)) dX5_led_7 (by decide) rfl ?_
    refine j_aload_n (q := 11) hC dX5_led_10 rfl rfl 0 rfl ?_
    refine j_get (q := 14) hC zcl_X5 0 6 zw_248 ⟨rfl, rfl, by decide⟩ rfl hfs dX5_led_11 rfl ?_
    refine j_getN (q := 17) hC zcl_X3 1 9 zn_179 ⟨rfl, rfl, by decide⟩ rfl hgs dX5_led_14 rfl ?_
    refine j_iload_n (q := 18) hC dX5_led_17 rfl rfl 3 rfl ?_
    refine j_iald (q := 19) (K := some) (r := d l) hC 2 rfl dX5_led_18 rfl (zald_n hl2 (by decide)) (fun x hx => ?_)
    cases hx
    refine j_iconst (q := 20) (v := 1) hC dX5_led_19 rfl (by decide) ?_
    by_cases c1 : d l = 1
    · have er : ytR d l (m + 1) = l :: ytR d (l + 1) m := zrun_t (f := fun l => decide (d l = 1)) (decide_eq_true c1)
      rw [er] at kr kt
      refine j_nF (tgt := 33) (q := 23) hC c1 dX5_led_20 (by decide) rfl ?_
      refine j_iload_n (q := 24) hC dX5_led_23 rfl rfl 2 rfl ?_
      refine j_iload_n (q := 25) hC dX5_led_24 rfl rfl 1 rfl ?_
      by_cases c2 : nI c = a1
      · refine j_nF (tgt := 30) (q := 28) hC c2 dX5_led_25 (by decide) rfl ?_
        exact kr l (nI c) (by unfold zfa; rw [if_pos c2])
      · have ez : ∀ F, zfa a1 c (l :: F) = zfa a1 (c + 1) F := fun F => by
          show (if nI c = a1 then some l else zfa a1 (c + 1) F) = _
          rw [if_neg c2]
        rw [ez] at kr kt
        refine j_nT (tgt := 30) hC c2 dX5_led_25 (by decide) ?_
        refine j_iinc (q := 33) (v := 1) (K := some) (r := nI c + 1) hC (fun w => [(2, .int w), (0, .ref q0), (1, .int a1), (3, .int (nI l))]) dX5_led_30 rfl 2 rfl (by decide) (by decide) (fun w => rfl) rfl (fun w hw => ?_)
        cases hw
        rw [nI_1]
        exact j_sub (lv' := [(0, .ref q0), (1, .int a1), (2, .int (nI (c + 1))), (3, .int (nI l))]) [1, 2, 0, 3] rfl (step (c + 1) kr kt)
    · have er : ytR d l (m + 1) = ytR d (l + 1) m := zrun_f (f := fun l => decide (d l = 1)) (decide_eq_false c1)
      rw [er] at kr kt
      exact j_nT (tgt := 33) hC c1 dX5_led_20 (by decide) (step c kr kt)
theorem led_start {C : zX} {E : zE} {rm : Room} {k n q0 q1 q2 : Nat} {fs gs : List Value} {d : Nat → Int32} {a1 : Int32} (hC : zC C E cX5_led RX5 4 rm) (hfs : fs[6]? = some (.ref q1)) (hgs : gs[9]? = some (.ref q2))
    (kr : ∀ v cv, zfa a1 0 (ytR d 0 32) = some v → J C k n (ytW E q0 q1 q2 fs gs d) [(0, .ref q0), (1, .int a1), (2, .int cv), (3, .int (nI v))] 28 []) (kt : zfa a1 0 (ytR d 0 32) = none → ∀ lv, J C k n (ytW E q0 q1 q2 fs gs d) lv 39 []) : J C k n (ytW E q0 q1 q2 fs gs d) [(0, .ref q0), (1, .int a1)] 0 [] := by
  refine j_iconst (q := 1) (v := 0) hC dX5_led_0 rfl (by decide) ?_
  refine j_istore_n (q := 2) (lv' := [(2, .int 0), (0, .ref q0), (1, .int a1)]) hC dX5_led_1 rfl rfl (by decide) rfl ?_
  refine j_iconst (q := 3) (v := 0) hC dX5_led_2 rfl (by decide) ?_
  refine j_istore_n (q := 4) (lv' := [(3, .int 0), (2, .int 0), (0, .ref q0), (1, .int a1)]) hC dX5_led_3 rfl rfl (by decide) rfl ?_
  exact j_sub (lv' := [(0, .ref q0), (1, .int a1), (2, .int (nI 0)), (3, .int (nI 0))]) [2, 3, 1, 0] rfl (led_loop hC hfs hgs 32 0 0 rfl kr kt)
abbrev ytRm0 : Room := { frames := 0, cells := 0, slots := 0, locals := 0 }
theorem k_ledR (E : zE) (q0 q1 q2 : Nat) (fs gs : List Value) (d : Nat → Int32) (a1 : Int32) (hfs : fs[6]? = some (.ref q1)) (hgs : gs[9]? = some (.ref q2)) (v : Nat) (hv : zfa a1 0 (ytR d 0 32) = some v) (l : Launch) (sz : Nat) : zM l yX5_led cX5_led 4 (some .int) ytRm0 E [.ref q0, .int a1] (ytW E q0 q1 q2 fs gs d) sz (some (.int (nI v))) (ytW E q0 q1 q2 fs gs d) := by
  refine zEnter (by decide) (Nat.le_of_ble_eq_true rfl) ?_
  intro C hC hR
  change zC C E cX5_led RX5 4 _ at hC
  refine led_start hC hfs hgs (fun v' cv h => ?_) (fun h => by rw [hv] at h; cases h)
  rw [hv] at h
  cases h
  refine j_iload_n (q := 29) hC dX5_led_28 rfl rfl 3 rfl ?_
  exact j_iret hC hR dX5_led_29 rfl rfl
abbrev ytQr (A : Nat → Prop) : Array Value → State → Outcome → State → Prop := va_Qi (fun _ (_ : Unit) => False) (fun _ _ => True) A
abbrev ytQx (E : zE) (ws : va_W) (A : Nat → Prop) : String → State → State → Prop := vx_X (fun _ : Unit => True) (fun N _ t => N = ytN ∧ va_P E.1 vwCl ws t.heap) A
abbrev ytRm1 : Room := { frames := 6, cells := 1, slots := 6, locals := 90 }
theorem yt_classLink : Cond.classLink "PackedCache" 274 ytN ∈ zW := zT 826 (by decide +kernel) (by decide +kernel)
theorem yt_init : Cond.initialized ytN ∈ zW := zT 20 (by decide +kernel) (by decide +kernel)
theorem k_ledT (E : zE) (q0 q1 q2 : Nat) (fs gs : List Value) (d : Nat → Int32) (a1 : Int32) (hfs : fs[6]? = some (.ref q1)) (hgs : gs[9]? = some (.ref q2)) (hv : zfa a1 0 (ytR d 0 32) = none) (l : Launch) (hlt : l.stackTraces = false) (sz : Nat) :
    vx_Met l yX5_led (Cond.code yX5_led cX5_led 4 (some .int) :: zW) ytRm1 (va_Pc [.ref q0, .int a1] (zPreT E (ytW E q0 q1 q2 fs gs d) sz)) (ytQr (va_A (ytW E q0 q1 q2 fs gs d) sz)) (ytQx E (ytW E q0 q1 q2 fs gs d) (va_A (ytW E q0 q1 q2 fs gs d) sz)) 1 6 (va_A (ytW E q0 q1 q2 fs gs d) sz) := by
  refine vx_ofW (cc := cX5_led) (maxL := 4) (ret := some .int) (by decide) rfl ?_
  intro p e s m args below meth c s₁ B hml htab hv0
  obtain ⟨rfl, ⟨hsz, hP, hD0, hG⟩, hT⟩ := hv0
  subst hsz
  have hts := atoms_spec (ws := Cond.code yX5_led cX5_led 4 (some .int) :: zW) B.pre
  have hts' : ∀ w ∈ zW, w.before ([.ref q0, .int a1] : List Value).toArray s = true := fun w hw => hts w (List.mem_cons_of_mem _ hw)
  have hown : s.vm.findClass yX5_led.cls = some m.cls := findClass_of_methodNamed B.named
  have hl := lv_entry ([.ref q0, .int a1] : List Value) (n := 4) (Nat.le_of_ble_eq_true rfl)
  rw [lg_entry_eq]
  have hC : zC (p, l, e, ytRm1, s, m, ([.ref q0, .int a1] : List Value).toArray, below, meth, c, va_A (ytW E q0 q1 q2 fs gs d) s.heap.size, 4, E.1, vx_MQ below (ytQr (va_A (ytW E q0 q1 q2 fs gs d) s.heap.size)) (ytQx E (ytW E q0 q1 q2 fs gs d) (va_A (ytW E q0 q1 q2 fs gs d) s.heap.size)) ([.ref q0, .int a1] : List Value).toArray s 1 6 (va_A (ytW E q0 q1 q2 fs gs d) s.heap.size)) E cX5_led RX5 4 ytRm1 :=
    ⟨B.exec, B.bytes, hml, hown, hts', hG, fun q hq => Or.inr hq, rfl, rfl, rfl⟩
  refine led_start (k := 0) (n := 0) hC hfs hgs (fun v' cv h => by rw [hv] at h; cases h) (fun _ lv => ?_) s.heap [] _ hP hD0.self va_S.rf hl
  intro H locs ls hP1 hD1 hS1 hl1
  refine yt_throw (text := "no such line is dirty") (names := ["java/lang/RuntimeException", "java/lang/Exception"]) (cls := ytN) (own := "PackedCache") (ix := 13) (rx := ytRx) (sa := E.2.2.2.1 12) (A := va_A (ytW E q0 q1 q2 fs gs d) s.heap.size) B.exec B.bytes hlt (by decide +kernel) (by decide +kernel) (by decide +kernel) (by decide +kernel) hown (by decide) (by decide) (hts' _ yt_classLink) (hts' _ yt_init) (hG.2.2.2.2.1 12 _ rfl).1 ?_ ytL_ot hT.1 hT.2.1 hS1 (hl1.1.trans hml.symm) dX5_led_39 dX5_led_42 dX5_led_43 dX5_led_46 dX5_led_49 (fun x hx => absurd (htab x hx) id) (by decide) (by decide) (by decide) (by decide) B.notSynchronized ?_ hS1.2.2 (by decide) (by decide)
  · refine vx_hat (fun w hw => ?_) ytL_rest (fun w hw => va_any (ytB_ot w hw) (hT.2.2 w hw))
    exact hts' w (List.mem_filter.mpr ⟨List.mem_append_right _ (ytL_good w hw), (List.mem_filter.mp hw).2⟩)
  · intro t hal hz hk
    refine ⟨(), trivial, ⟨rfl, fun i x hx => ?_⟩, Nat.le_trans hS1.1 hz, fun q hq hA => ?_⟩
    · have hlt := vx_lt hP1 hx
      have h1 := hP1 i x hx
      exact h1.kept (hk _ hlt)
    · rw [hk q (Nat.lt_of_lt_of_le hq hS1.1)]
      exact hS1.2.1 q hq hA
