/-! ===== a call: the callee's cells among the caller's, at places ===== -/
/-- ws' is ws with the callee's cells anew -/
def zNewW (ws : va_W) (is : List Nat) (wd ws' : va_W) : Prop := ∀ (k : Nat) (q : Nat × va_E), ws'[k]? = some q → (∃ j : Nat, is[j]? = some k ∧ wd[j]? = some q) ∨ ((∀ j : Nat, j < wd.length → is[j]? ≠ some k) ∧ ws[k]? = some q)
theorem zmap_at {ws wc : va_W} {is : List Nat} (h : is.map (fun i => ws[i]?) = wc.map some) {j : Nat} {q : Nat × va_E} (hq : wc[j]? = some q) : ∃ i, is[j]? = some i ∧ ws[i]? = some q := by
  have h1 : (is.map (fun i => ws[i]?))[j]? = some (some q) := by rw [h, List.getElem?_map, hq]; rfl
  rw [List.getElem?_map] at h1
  cases hi : is[j]? with
  | none => rw [hi] at h1; cases h1
  | some i => rw [hi] at h1; exact ⟨i, rfl, Option.some.inj h1⟩
theorem zNewW.of {ws wd ws' : va_W} {is isR : List Nat} {N : Nat} (hcov : (List.range N).all (fun k => is.contains k || isR.contains k) = true) (h : is.map (fun i => ws'[i]?) = wd.map some ∧ isR.map (fun i => ws'[i]?) = isR.map (fun i => ws[i]?) ∧ ws'.length = N) : zNewW ws is wd ws' := by
  obtain ⟨h1, h2, h3⟩ := h
  intro k q hq
  by_cases hk : k ∈ is
  · obtain ⟨j, hj⟩ := List.getElem?_of_mem hk
    have e1 : (is.map (fun i => ws'[i]?))[j]? = some (ws'[k]?) := by rw [List.getElem?_map, hj]; rfl
    rw [h1, List.getElem?_map, hq] at e1
    cases hw : wd[j]? with
    | none => rw [hw] at e1; cases e1
    | some c => rw [hw] at e1; exact Or.inl ⟨j, hj, by rw [hw]; exact congrArg some (Option.some.inj (Option.some.inj e1))⟩
  · have hl : k < N := by rw [← h3]; exact (List.getElem?_eq_some_iff.mp hq).1
    have hc := List.all_eq_true.mp hcov k (List.mem_range.mpr hl)
    rw [Bool.or_eq_true] at hc
    have hr : k ∈ isR := by
      rcases hc with hc | hc
      · exact absurd (List.contains_iff_mem.mp hc) hk
      · exact List.contains_iff_mem.mp hc
    obtain ⟨j, hj⟩ := List.getElem?_of_mem hr
    have e1 : (isR.map (fun i => ws'[i]?))[j]? = some (ws'[k]?) := by rw [List.getElem?_map, hj]; rfl
    rw [h2, List.getElem?_map, hj, hq] at e1
    exact Or.inr ⟨fun j _ hj => hk (List.mem_of_getElem? hj), Option.some.inj e1⟩
theorem zput_old {ws wc wd ws' : va_W} {is : List Nat} (hn : zNewW ws is wd ws') (h : is.map (fun i => ws[i]?) = wc.map some) (hf : wd.map Prod.fst = wc.map Prod.fst) {k : Nat} {q : Nat × va_E} (hq : ws'[k]? = some q) : ∃ e, ws[k]? = some (q.1, e) := by
  rcases hn k q hq with ⟨j, h1, h2⟩ | ⟨h1, h2⟩
  · have h3 : (wd.map Prod.fst)[j]? = some q.1 := by rw [List.getElem?_map, h2]; rfl
    rw [hf, List.getElem?_map] at h3
    cases hw : wc[j]? with
    | none => rw [hw] at h3; cases h3
    | some c =>
      rw [hw] at h3
      have h4 : c.1 = q.1 := Option.some.inj h3
      obtain ⟨i, h5, h6⟩ := zmap_at h hw
      rw [h1] at h5
      cases h5
      exact ⟨c.2, by rw [h6, ← h4]⟩
  · exact ⟨q.2, h2⟩
theorem zput_D {A : Nat → Prop} {ws wc wd ws' : va_W} {is : List Nat} (hn : zNewW ws is wd ws') (hD : va_D A ws) (h : is.map (fun i => ws[i]?) = wc.map some) (hf : wd.map Prod.fst = wc.map Prod.fst) : va_D A ws' := by
  refine ⟨fun i j x y hi hj hxy => ?_, fun k q hk => ?_⟩
  · obtain ⟨e1, h1⟩ := zput_old hn h hf hi
    obtain ⟨e2, h2⟩ := zput_old hn h hf hj
    exact hD.1 i j _ _ h1 h2 hxy
  · obtain ⟨e1, h1⟩ := zput_old hn h hf hk
    exact hD.2 k (q.1, e1) h1
theorem zput_P {D : va_G} {A : Nat → Prop} {ws wc wd ws' : va_W} {is : List Nat} {H H1 : Heap} (hn : zNewW ws is wd ws') (hP : va_P D vwCl ws H) (hD : va_D A ws) (h : is.map (fun i => ws[i]?) = wc.map some) (hf : wd.map Prod.fst = wc.map Prod.fst) (hP1 : va_P D vwCl wd H1) (hk : ∀ q : Nat, q < H.size → ¬ va_A wc H.size q → H1[q]? = H[q]?) : va_P D vwCl ws' H1 := by
  intro k q hq
  rcases hn k q hq with ⟨j, h1, h2⟩ | ⟨h1, h2⟩
  · exact hP1 j q h2
  · have hlt := (hP k q h2).lt
    refine (hP k q h2).kept (hk q.1 hlt fun hA => ?_)
    rcases hA with ⟨j, e, hj⟩ | hA
    · obtain ⟨i, h5, h6⟩ := zmap_at h hj
      have := hD.1 k i q (q.1, e) h2 h6 rfl
      subst this
      have hjl : j < wd.length := by
        have : j < wc.length := (List.getElem?_eq_some_iff.mp hj).1
        have e3 : wd.length = wc.length := by simpa using congrArg List.length hf
        omega
      exact h1 j hjl h5
    · omega
section ZK
variable {p : Program} {l : Launch} {e : Env} {R : Room} {s : State} {m : MethodId} {args : Array Value} {below : List Frame} {meth : Method} {c : Code} {H : Heap} {locs : List Loc} {cells slots : Nat} {Q : State → Prop}
theorem zcall {D : va_G} {A : Nat → Prop} {ws wc wd ws' : va_W} {is : List Nat} {pc : Nat} {ls : Array Slot} {rest st0 : List Value} {a : Array Value} {V : Option Value} (hr : va_Run p l e R s m args below meth c H locs cells slots 0 0 (F0 m pc ls st0) rest (zQ D (va_A wc H.size) wd V a) (va_A wc H.size)) (hP : va_P D vwCl ws H) (hD : va_D A ws) (hS : va_S A s.heap H locs) (hA : ∀ q, s.heap.size ≤ q → A q)
    (h : is.map (fun i => ws[i]?) = wc.map some) (hf : wd.map Prod.fst = wc.map Prod.fst) (hnw : zNewW ws is wd ws')
    (kk : ∀ (H1 : Heap) (locs1 : List Loc), va_P D vwCl ws' H1 → va_D A ws' → va_S A s.heap H1 locs1 → W p l e R s m args below meth c H1 locs1 cells slots Q (F0 m (pc + 3) ls (V.toList ++ rest))) : W p l e R s m args below meth c H locs cells slots Q (F0 m pc ls st0) := by
  intro T hT X
  obtain ⟨v, st₀, t, T', L, h0, X', hL, e1, e2, ⟨hv, hP1, hz, hk⟩, st⟩ := hr T hT X
  cases hv
  rw [h0] at hz hk
  have hF := va_free (wc := wc) hD hS hA is h
  have hk' : ∀ q : Nat, q < H.size → ¬ va_A wc H.size q → T'.heap[q]? = H[q]? := fun q h1 h2 => by rw [e1]; exact hk q h1 h2
  obtain ⟨t2, a1, b1⟩ := kk T'.heap (locs ++ L) (zput_P hnw hP hD h hf (by rw [e1]; exact hP1) hk') (zput_D hnw hD h hf)
    ⟨Nat.le_trans hS.1 (by rw [e1]; exact hz), fun q h1 h2 => by rw [hk' q (Nat.lt_of_lt_of_le h1 hS.1) (fun z => h2 (hF q z))]; exact hS.2.1 q h1 h2, fun q hq => by
      rcases List.mem_append.mp hq with h | h
      · exact hS.2.2 q h
      · exact hF _ (hL q h)⟩ T' rfl X'
  exact ⟨t2, st t2 a1, b1⟩
theorem zprep {E : zE} {A : Nat → Prop} {ws wc : va_W} {is : List Nat} {av : List Value} (hG : zG E A s s.heap) (hP : va_P E.1 vwCl ws H) (hD : va_D A ws) (hS : va_S A s.heap H locs) (hA : ∀ q, s.heap.size ≤ q → A q) (h : is.map (fun i => ws[i]?) = wc.map some) (hn : va_nd is = true) : ∀ U : State, U.heap = H → s.WarmedH U.vm → va_Pc av (zPre E wc H.size) av.toArray U := by
  intro U hU hW
  have hF := va_free (wc := wc) hD hS hA is h
  have hPc : va_P E.1 vwCl wc H := fun k q hq => by
    obtain ⟨i, -, h2⟩ := zmap_at h hq
    exact hP i q h2
  refine ⟨rfl, by rw [hU], by rw [hU]; exact hPc, (hD.sub is hn h).weaken (fun _ _ _ _ => trivial), ?_⟩
  rw [hU]
  exact hG.step hW hS.2.1 hF
end ZK
def zYv (y : MethodName) (cy : ByteArray) (nLy : Nat) (ret : Option FieldType) (na : Nat) : Prop := Cond.code y cy nLy ret ∈ zW ∧ Cond.instanceMethod y ∈ zW ∧ Cond.selects y.cls y y ∈ zW ∧ Cond.initialized y.cls ∈ zW ∧ (y.cls ≠ "java/lang/invoke/MethodHandle" ∧ y.cls ≠ "java/lang/invoke/VarHandle" ∧ (parseMethodDescriptor y.desc).map (fun d => d.parameters.length) = some na)
def zYs (y : MethodName) (cy : ByteArray) (nLy : Nat) (ret : Option FieldType) (na : Nat) : Prop := Cond.code y cy nLy ret ∈ zW ∧ Cond.static y ∈ zW ∧ Cond.initialized y.cls ∈ zW ∧ (y.cls ≠ "java/lang/invoke/MethodHandle" ∧ y.cls ≠ "java/lang/invoke/VarHandle" ∧ (parseMethodDescriptor y.desc).map (fun d => d.parameters.length) = some na)
def zRm (rmy rm : Room) (nLy k n : Nat) : Prop := rmy.cells = 0 ∧ rmy.slots = 0 ∧ rmy.frames + 1 ≤ rm.frames ∧ 8 + (nLy + 11) + rmy.locals ≤ rm.locals ∧ k ≤ rm.cells ∧ n ≤ rm.slots
section ZR
variable {C : zX} {E : zE} {cc : ByteArray} {own : String} {nL : Nat} {rm : Room} {k n : Nat} {ws : va_W} {lv : List (Nat × Value)} {pc q : Nat} {st : List Value}
variable {y : MethodName} {cy : ByteArray} {nLy : Nat} {rety : Option FieldType} {rmy : Room} {α β : Type} {F : Option α} {K : α → Option β} {r : β} {wc : va_W} {b index na ci : Nat} {fs : List Value}
theorem j_callV (hC : zC C E cc own nL rm) (As rest : List Value) (V : α → Option Value) (Wd ws' : α → va_W) (st' : α → List Value) (is isR : List Nat) {N : Nat}
    (hf : F.bind K = some r) (hM : ∀ x, F = some x → ∀ l sz, zM l y cy nLy rety rmy E (.ref b :: As) wc sz (V x) (Wd x)) (hy : zYv y cy nLy rety na) (hlink : Cond.methodLink own index y ∈ zW) (hrm : zRm rmy rm nLy k n)
    (hCe : is.map (fun i => ws[i]?) = wc.map some) (hnd : va_nd is = true) (hfst : ∀ x, (Wd x).map Prod.fst = wc.map Prod.fst) (hcov : (List.range N).all (fun k => is.contains k || isR.contains k) = true) (hput : ∀ x, is.map (fun i => (ws' x)[i]?) = (Wd x).map some ∧ isR.map (fun i => (ws' x)[i]?) = isR.map (fun i => ws[i]?) ∧ (ws' x).length = N)
    (hrecv : wc[0]? = some (b, .inr (ci, fs))) (hcl : (vwCl[ci]?).map (fun z => z.1) = some y.cls) (hna : As.length = na) (hst8 : (rest.map fun v => v.category).sum ≤ 8)
    (hd : decode cc pc = .ok (.invokevirtual index, 3)) (hq : pc + 3 = q) (hs : st = As.reverse ++ .ref b :: rest) (hs' : ∀ x, (V x).toList ++ rest = st' x)
    (kk : ∀ x, K x = some r → J C k n (ws' x) lv q (st' x)) : J C k n ws lv pc st := by
  obtain ⟨p, l, e, R, s, m, args, below, meth, c, A, nL', D, Q⟩ := C
  obtain ⟨hx, hb, hml, hown, hts, hG, hA, rfl, rfl, rfl⟩ := hC
  subst hq
  subst hs
  obtain ⟨x, hF, hK⟩ := zbd_s hf
  obtain ⟨hy1, hy2, hy3, hy4, hy5⟩ := hy
  obtain ⟨r1, r2, r3, r4, r5, r6⟩ := hrm
  intro H locs ls hP hD hS hl
  have hPc : va_P E.1 vwCl wc H := fun k q hq => by
    obtain ⟨i, -, h2⟩ := zmap_at hCe hq
    exact hP i q h2
  obtain ⟨qc, hqc, hqn⟩ : ∃ qc, vwCl[ci]? = some qc ∧ qc.1 = y.cls := by
    cases h : vwCl[ci]? with
    | none => rw [h] at hcl; cases hcl
    | some z => rw [h] at hcl; exact ⟨z, rfl, Option.some.inj hcl⟩
  have hrc := va_recv hG.1 hPc hqc hrecv
  rw [hqn] at hrc
  have hrun := va_runV (cells := k) (slots := n) (e := e) (below := below) (meth := meth) (locs := locs) (g := F0 m pc ls (As.reverse ++ .ref b :: rest)) (rest := rest) (C := y.cls) (b := b) (As := As) ⟨hx, hb, hml, hown, hts⟩ (hM x hF l H.size)
    ⟨callB_of na hts (zGood' hy1) rfl r1 r2 (hts _ hy4) (hts _ hlink) hy5 ⟨r3, r4⟩, hts _ hy2, hts _ hy3⟩
    ⟨zPre_blind, hrc, zprep hG hP hD hS hA hCe hnd⟩ rfl hna hl.1 rfl (lv_room hst8) hd ⟨r5, r6⟩
  refine zcall hrun hP hD hS hA hCe (hfst x) (zNewW.of hcov (hput x)) fun H1 locs1 hP1 hD1 hS1 => ?_
  rw [hs' x]
  exact kk x hK H1 locs1 ls hP1 hD1 hS1 hl
theorem j_callS (hC : zC C E cc own nL rm) (As rest : List Value) (V : α → Option Value) (Wd ws' : α → va_W) (st' : α → List Value) (is isR : List Nat) {N : Nat}
    (hf : F.bind K = some r) (hM : ∀ x, F = some x → ∀ l sz, zM l y cy nLy rety rmy E As wc sz (V x) (Wd x)) (hy : zYs y cy nLy rety na) (hlink : Cond.methodLink own index y ∈ zW) (hrm : zRm rmy rm nLy k n)
    (hCe : is.map (fun i => ws[i]?) = wc.map some) (hnd : va_nd is = true) (hfst : ∀ x, (Wd x).map Prod.fst = wc.map Prod.fst) (hcov : (List.range N).all (fun k => is.contains k || isR.contains k) = true) (hput : ∀ x, is.map (fun i => (ws' x)[i]?) = (Wd x).map some ∧ isR.map (fun i => (ws' x)[i]?) = isR.map (fun i => ws[i]?) ∧ (ws' x).length = N)
    (hna : As.length = na) (hst8 : (rest.map fun v => v.category).sum ≤ 8)
    (hd : decode cc pc = .ok (.invokestatic index, 3)) (hq : pc + 3 = q) (hs : st = As.reverse ++ rest) (hs' : ∀ x, (V x).toList ++ rest = st' x)
    (kk : ∀ x, K x = some r → J C k n (ws' x) lv q (st' x)) : J C k n ws lv pc st := by
  obtain ⟨p, l, e, R, s, m, args, below, meth, c, A, nL', D, Q⟩ := C
  obtain ⟨hx, hb, hml, hown, hts, hG, hA, rfl, rfl, rfl⟩ := hC
  subst hq
  subst hs
  obtain ⟨x, hF, hK⟩ := zbd_s hf
  obtain ⟨hy1, hy2, hy4, hy5⟩ := hy
  obtain ⟨r1, r2, r3, r4, r5, r6⟩ := hrm
  intro H locs ls hP hD hS hl
  have hrun := va_runS (cells := k) (slots := n) (e := e) (below := below) (meth := meth) (locs := locs) (g := F0 m pc ls (As.reverse ++ rest)) (rest := rest) (As := As) ⟨hx, hb, hml, hown, hts⟩ (hM x hF l H.size)
    ⟨callB_of na hts (zGood' hy1) rfl r1 r2 (hts _ hy4) (hts _ hlink) hy5 ⟨r3, r4⟩, hts _ hy2⟩
    ⟨zPre_blind, zprep hG hP hD hS hA hCe hnd⟩ rfl hna hl.1 rfl (lv_room hst8) hd ⟨r5, r6⟩
  refine zcall hrun hP hD hS hA hCe (hfst x) (zNewW.of hcov (hput x)) fun H1 locs1 hP1 hD1 hS1 => ?_
  rw [hs' x]
  exact kk x hK H1 locs1 ls hP1 hD1 hS1 hl
theorem j_callSN (hC : zC C E cc own nL rm) {host : String} (As rest : List Value) (V : α → Option Value) (Wd ws' : α → va_W) (st' : α → List Value) (is isR : List Nat) {N : Nat}
    (hf : F.bind K = some r) (hM : ∀ x, F = some x → ∀ l sz, zM l y cy nLy rety rmy E As wc sz (V x) (Wd x)) (hy : zYs y cy nLy rety na) (hlink : Cond.methodLinkNest own index y host ∈ zN) (hrm : zRm rmy rm nLy k n)
    (hCe : is.map (fun i => ws[i]?) = wc.map some) (hnd : va_nd is = true) (hfst : ∀ x, (Wd x).map Prod.fst = wc.map Prod.fst) (hcov : (List.range N).all (fun k => is.contains k || isR.contains k) = true) (hput : ∀ x, is.map (fun i => (ws' x)[i]?) = (Wd x).map some ∧ isR.map (fun i => (ws' x)[i]?) = isR.map (fun i => ws[i]?) ∧ (ws' x).length = N)
    (hna : As.length = na) (hst8 : (rest.map fun v => v.category).sum ≤ 8)
    (hd : decode cc pc = .ok (.invokestatic index, 3)) (hq : pc + 3 = q) (hs : st = As.reverse ++ rest) (hs' : ∀ x, (V x).toList ++ rest = st' x)
    (kk : ∀ x, K x = some r → J C k n (ws' x) lv q (st' x)) : J C k n ws lv pc st := by
  obtain ⟨p, l, e, R, s, m, args, below, meth, c, A, nL', D, Q⟩ := C
  obtain ⟨hx, hb, hml, hown, hts, hG, hA, rfl, rfl, rfl⟩ := hC
  subst hq
  subst hs
  obtain ⟨x, hF, hK⟩ := zbd_s hf
  obtain ⟨hy1, hy2, hy4, hy5⟩ := hy
  obtain ⟨r1, r2, r3, r4, r5, r6⟩ := hrm
  intro H locs ls hP hD hS hl
  have hrun := va_runSN (cells := k) (slots := n) (e := e) (below := below) (meth := meth) (locs := locs) (g := F0 m pc ls (As.reverse ++ rest)) (rest := rest) (As := As) ⟨hx, hb, hml, hown, hts⟩ (hM x hF l H.size)
    ⟨va_cnB na hts (zGood' hy1) rfl r1 r2 (hG.2.1 _ hlink) (hts _ hy4) hy5 ⟨r3, r4⟩, hts _ hy2, trivial⟩
    ⟨zPre_blind, zprep hG hP hD hS hA hCe hnd⟩ rfl hna hl.1 rfl (lv_room hst8) hd ⟨r5, r6⟩
  refine zcall hrun hP hD hS hA hCe (hfst x) (zNewW.of hcov (hput x)) fun H1 locs1 hP1 hD1 hS1 => ?_
  rw [hs' x]
  exact kk x hK H1 locs1 ls hP1 hD1 hS1 hl
/-- System.arraycopy between int arrays of the world -/
theorem j_copy (hC : zC C E cc own nL rm) {f g : Nat → Int32} {n0 n1 a0 a1 : Nat} {sp dp len : Int32} {K : (Nat → Int32) → Option β} {r : β} (q0 q1 : Nat) (ws' : (Nat → Int32) → va_W) (ha0 : ws[q0]? = some (a0, .inl (E.2.1 0, n0, .inl f))) (ha1 : ws[q1]? = some (a1, .inl (E.2.1 0, n1, .inl g))) (hset : ∀ h, ws.set q1 (a1, .inl (E.2.1 0, n1, .inl h)) = ws' h)
    (hlink : Cond.methodLink own index arraycopyName ∈ zW) (hnat : Cond.native arraycopyName ∈ zW) (hstat : Cond.static arraycopyName ∈ zW) (hini : Cond.initialized "java/lang/System" ∈ zW) (hrm : 1 ≤ rm.frames ∧ (st.map fun v => v.category).sum + (nativeFrameWords "java/lang/System" "arraycopy" 5 + 11) ≤ rm.locals)
    (hd : decode cc pc = .ok (.invokestatic index, 3)) (hq : pc + 3 = q) (hf : zcpy f g n0 n1 sp dp len K = some r) (kk : ∀ h, K h = some r → J C k n (ws' h) lv q st) : J C k n ws lv pc (.int len :: .int dp :: .ref a1 :: .int sp :: .ref a0 :: st) := by
  obtain ⟨p, l, e, R, s, m, args, below, meth, c, A, nL', D, Q⟩ := C
  obtain ⟨hx, hb, hml, hown, hts, hG, hA, rfl, rfl, rfl⟩ := hC
  subst hq
  have h := zguard_s hf
  obtain ⟨h0, hK⟩ := h
  intro H locs ls hP hD hS hl
  refine va_copyi hx hb (hml.trans hl.1.symm) hown (hts _ hlink) (hts _ hnat) (hts _ hstat) (hts _ hini) hG.1 hP hD hS q0 q1 0 0 ha0 ha1 rfl rfl rfl (fun z => h0 (Or.inl z)) (fun z => h0 (Or.inr (Or.inl z))) (fun z => h0 (Or.inr (Or.inr (Or.inl z)))) (Nat.not_lt.mp fun z => h0 (Or.inr (Or.inr (Or.inr (Or.inl z))))) (Nat.not_lt.mp fun z => h0 (Or.inr (Or.inr (Or.inr (Or.inr z))))) (fun _ _ => rfl) hrm.1 hrm.2 hd fun H1 locs1 hP1 hD1 hS1 => ?_
  exact kk _ hK H1 locs1 ls (hset _ ▸ hP1) (hset _ ▸ hD1) hS1 hl
theorem j_max (hC : zC C E cc own nL rm) {x y : Int32} {K : Int32 → Option β} {r : β} (hlink : Cond.methodLink own index Lib.Math.max.name ∈ zW) (hstat : Cond.static Lib.Math.max.name ∈ zW) (hini : Cond.initialized "java/lang/Math" ∈ zW) (hcode : Cond.code Lib.Math.max.name Lib.Math.max.code 2 (some .int) ∈ zW) (hrm : 1 ≤ rm.frames ∧ (st.map fun v => v.category).sum + 13 ≤ rm.locals ∧ k ≤ rm.cells ∧ n ≤ rm.slots)
    (hd : decode cc pc = .ok (.invokestatic index, 3)) (hq : pc + 3 = q) (hf : zlet (if x < y then y else x) K = some r) (kk : ∀ z, K z = some r → J C k n ws lv q (.int z :: st)) : J C k n ws lv pc (.int y :: .int x :: st) := by
  obtain ⟨p, l, e, R, s, m, args, below, meth, c, A, nL', D, Q⟩ := C
  obtain ⟨hx, hb, hml, hown, hts, hG, hA, rfl, rfl, rfl⟩ := hC
  subst hq
  exact fun H locs ls hP hD hS hl => va_mmax hx hb (hml.trans hl.1.symm) hown (hts _ hlink) (hts _ hstat) (hts _ hini) (hts _ hcode) hrm.1 hrm.2.1 hrm.2.2.1 hrm.2.2.2 hd (kk _ hf H locs ls hP hD hS hl)
theorem j_min (hC : zC C E cc own nL rm) {x y : Int32} {K : Int32 → Option β} {r : β} (hlink : Cond.methodLink own index Lib.Math.min.name ∈ zW) (hstat : Cond.static Lib.Math.min.name ∈ zW) (hini : Cond.initialized "java/lang/Math" ∈ zW) (hcode : Cond.code Lib.Math.min.name Lib.Math.min.code 2 (some .int) ∈ zW) (hrm : 1 ≤ rm.frames ∧ (st.map fun v => v.category).sum + 13 ≤ rm.locals ∧ k ≤ rm.cells ∧ n ≤ rm.slots)
    (hd : decode cc pc = .ok (.invokestatic index, 3)) (hq : pc + 3 = q) (hf : zlet (if y < x then y else x) K = some r) (kk : ∀ z, K z = some r → J C k n ws lv q (.int z :: st)) : J C k n ws lv pc (.int y :: .int x :: st) := by
  obtain ⟨p, l, e, R, s, m, args, below, meth, c, A, nL', D, Q⟩ := C
  obtain ⟨hx, hb, hml, hown, hts, hG, hA, rfl, rfl, rfl⟩ := hC
  subst hq
  exact fun H locs ls hP hD hS hl => va_mmin hx hb (hml.trans hl.1.symm) hown (hts _ hlink) (hts _ hstat) (hts _ hini) (hts _ hcode) hrm.1 hrm.2.1 hrm.2.2.1 hrm.2.2.2 hd (kk _ hf H locs ls hP hD hS hl)
end ZR
