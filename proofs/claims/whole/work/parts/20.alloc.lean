/-! ===== methods that make cells ===== -/
def zQA (D : va_G) (A : Nat → Prop) (Wd : (Nat → Nat) → va_W) (V : Option Value) : Array Value → State → Outcome → State → Prop := fun _ st o t => o = .returned V ∧ ∃ a : Nat → Nat, va_P D vwCl (Wd a) t.heap ∧ va_D A (Wd a) ∧ va_F A st t
def zMA (l : Launch) (y : MethodName) (cc : ByteArray) (nL : Nat) (ret : Option FieldType) (rm : Room) (E : zE) (av : List Value) (ws : va_W) (sz mc ms : Nat) (V : Option Value) (Wd : (Nat → Nat) → va_W) : Prop := Met l y (Cond.code y cc nL ret :: zW) rm (va_Pc av (zPre E ws sz)) (zQA E.1 (va_A ws sz) Wd V) mc ms (va_A ws sz)
def zI (C : zX) : Prop := match C with
  | (_, _, _, _, _, _, _, _, meth, _, _, _, _, _) => meth.name = "<init>"
def zRA (C : zX) (ret : Option FieldType) (mc ms : Nat) (V : Option Value) (Wd : (Nat → Nat) → va_W) : Prop := match C with
  | (_, _, _, _, s, _, args, below, meth, _, A, _, D, Q) => meth.locks = false ∧ meth.sig.returnType = ret ∧ Q = MQ below (zQA D A Wd V) args s mc ms A
theorem zEnterA {l : Launch} {y : MethodName} {cc : ByteArray} {nL : Nat} {ret : Option FieldType} {rm : Room} {E : zE} {av : List Value} {ws : va_W} {sz mc ms : Nat} {V : Option Value} {Wd : (Nat → Nat) → va_W} (hy : plainName y.cls = true) (hav : (lg_sl av).length ≤ nL)
    (h : ∀ C : zX, zC C E cc y.cls nL rm → zRA C ret mc ms V Wd → (y.name = "<init>" → zI C) → J C 0 0 ws (lv_args 0 av) 0 []) : zMA l y cc nL ret rm E av ws sz mc ms V Wd := by
  refine Met.ofW (cc := cc) (maxL := nL) (ret := ret) hy rfl ?_
  intro p e s m args below meth c s₁ B hml hv
  obtain ⟨rfl, hsz, hP, hD0, hG⟩ := hv
  subst hsz
  have hts := atoms_spec (ws := Cond.code y cc nL ret :: zW) B.pre
  have hown : s.vm.findClass y.cls = some m.cls := findClass_of_methodNamed B.named
  have hnm : meth.name = y.name := (name_of_methodNamed B.named B.method).1
  have hl := lv_entry av (n := nL) hav
  rw [lg_entry_eq]
  exact h (p, l, e, rm, s, m, av.toArray, below, meth, c, va_A ws s.heap.size, nL, E.1, _) ⟨B.exec, B.bytes, hml, hown, fun w hw => hts w (List.mem_cons_of_mem _ hw), hG, fun q hq => Or.inr hq, rfl, rfl, rfl⟩ ⟨B.notSynchronized, B.returns, rfl⟩ (fun hi => hnm.trans hi) s.heap [] _ hP hD0.self va_S.rf hl
section ZR
variable {C : zX} {E : zE} {cc : ByteArray} {own : String} {nL : Nat} {rm : Room} {k n : Nat} {ws : va_W} {lv : List (Nat × Value)} {pc q : Nat} {st : List Value}
theorem j_perm {ws' : va_W} (is : List Nat) (hnd : va_nd is = true) (h : is.map (fun i => ws[i]?) = ws'.map some) (kk : J C k n ws' lv pc st) : J C k n ws lv pc st := by
  obtain ⟨p, l, e, R, s, m, args, below, meth, c, A, nL', D, Q⟩ := C
  refine fun H locs ls hP hD hS hl => kk H locs ls (fun i q hq => ?_) (hD.sub is hnd h) hS hl
  obtain ⟨j, -, h2⟩ := zmap_at h hq
  exact hP j q h2
theorem j_widen {k' n' : Nat} (h1 : k ≤ k') (h2 : n ≤ n') (kk : J C k' n' ws lv pc st) : J C k n ws lv pc st := by
  obtain ⟨p, l, e, R, s, m, args, below, meth, c, A, nL', D, Q⟩ := C
  exact fun H locs ls hP hD hS hl => W.widen h1 h2 (kk H locs ls hP hD hS hl)
theorem j_new (hC : zC C E cc own nL rm) {ci N index k' n' : Nat} {Cn : String} {T : u_T} {ty : Nat → FieldType} (fs : List Value) (hcl : zCls ci Cn T N ty) (hcw : Cond.classLink own index Cn ∈ zW) (hinst : Cond.instantiable Cn N ∈ zW) (hini : Cond.initialized Cn ∈ zW) (hfs : ∀ j, j < N → defaultValue (ty j) = vp_V fs j) (hk : k + 1 = k' ∧ k' ≤ rm.cells) (hn : n + N = n' ∧ n' ≤ rm.slots) (hd : decode cc pc = .ok (.new index, 3)) (hq : pc + 3 = q)
    (kk : ∀ q0, J C k' n' (ws ++ [(q0, .inr (ci, fs))]) lv q (.ref q0 :: st)) : J C k n ws lv pc st := by
  obtain ⟨p, l, e, R, s, m, args, below, meth, c, A, nL', D, Q⟩ := C
  obtain ⟨hx, hb, hml, hown, hts, hG, hA, rfl, rfl, rfl⟩ := hC
  subst hq
  obtain ⟨rfl, hk⟩ := hk
  obtain ⟨rfl, hn⟩ := hn
  exact fun H locs ls hP hD hS hl => va_new hx hb hts hcl.1 ty hcl.2.2.2.1 hown (hts _ hcw) (hts _ hinst) (hts _ hini) hG.1 hP hD hS hA hcl.2.1 hfs hk hn hd (fun q0 H1 hP1 hD1 hS1 => kk q0 H1 locs ls hP1 hD1 hS1 hl)
theorem j_newa (hC : zC C E cc own nL rm) {atype : ArrayType} (t : Nat) {ty : FieldType} {v : Int32} {N' k' n' : Nat} {a0 : vp_A} (ht : (zTy E)[t]? = some (E.2.1 t, ty)) (hobj : ∀ c, ty ≠ .object c) (hty : newarray.typeOf atype = ty) (harr : Cond.arrayClass (newarray.typeOf atype) ∈ zW) (ha : ∀ cA : ClassId, vp_cell cA a0 = arrV cA N' (fun _ => defaultValue ty)) (hv : ¬ v < 0 ∧ v.toNatClampNeg = N') (hbytes : N' * componentBytes ty ≤ 536870912) (hk : k + 1 = k' ∧ k' ≤ rm.cells) (hn : n + N' = n' ∧ n' ≤ rm.slots) (hd : decode cc pc = .ok (.newarray atype, 2)) (hq : pc + 2 = q)
    (kk : ∀ q0, J C k' n' (ws ++ [(q0, .inl (E.2.1 t, a0))]) lv q (.ref q0 :: st)) : J C k n ws lv pc (.int v :: st) := by
  obtain ⟨p, l, e, R, s, m, args, below, meth, c, A, nL', D, Q⟩ := C
  obtain ⟨hx, hb, hml, hown, hts, hG, hA, rfl, rfl, rfl⟩ := hC
  subst hq
  obtain ⟨rfl, hk⟩ := hk
  obtain ⟨rfl, hn⟩ := hn
  refine fun H locs ls hP hD hS hl => va_newa hx hb (hts _ harr) hty hG.1 hP hD hS hA ha hv.1 hv.2 hbytes hk hn hd (fun q0 cA H1 hK1 hP1 hD1 hS1 => ?_)
  have e1 := (hG.1.2 t _ ht).2
  have e2 := (hK1.2 (zTy E).length (cA, ty) (by simp)).2
  have e3 : cA = E.2.1 t := by
    cases ty <;> first | exact absurd rfl (hobj _) | (simp only [va_RA] at e1 e2; rw [e1] at e2; exact (Option.some.inj e2).symm)
  subst e3
  exact kk q0 H1 locs ls hP1 hD1 hS1 hl
theorem j_newq (hC : zC C E cc own nL rm) {index N' k' n' : Nat} {v : Int32} (hcw : Cond.classLink own index "PackedCache$Store" ∈ zW) (hv : ¬ v < 0 ∧ v.toNatClampNeg = N') (hbytes : N' * 4 ≤ 536870912) (hk : k + 1 = k' ∧ k' ≤ rm.cells) (hn : n + N' = n' ∧ n' ≤ rm.slots) (hd : decode cc pc = .ok (.anewarray index, 3)) (hq : pc + 3 = q)
    (kk : ∀ q0, J C k' n' (ws ++ [(q0, .inl (E.2.1 4, N', .inr (.inr (.inr (.inr (fun _ => none))))))]) lv q (.ref q0 :: st)) : J C k n ws lv pc (.int v :: st) := by
  obtain ⟨p, l, e, R, s, m, args, below, meth, c, A, nL', D, Q⟩ := C
  obtain ⟨hx, hb, hml, hown, hts, hG, hA, rfl, rfl, rfl⟩ := hC
  subst hq
  obtain ⟨rfl, hk⟩ := hk
  obtain ⟨rfl, hn⟩ := hn
  refine fun H locs ls hP hD hS hl => va_newq hx hb hown (hts _ hcw) hG.2.2.2.2.2.2 hG.1 hP hD hS hA hv.1 hv.2 hbytes hk hn hd (fun q0 cA H1 hK1 hP1 hD1 hS1 => ?_)
  have e1 := (hG.1.2 4 (E.2.1 4, .object "PackedCache$Store") rfl).2
  have e2 := (hK1.2 (zTy E).length (cA, .object "PackedCache$Store") (by simp)).2
  obtain ⟨_, _, _, _, _, e1⟩ := e1
  obtain ⟨_, _, _, _, _, e2⟩ := e2
  rw [e1] at e2
  obtain rfl := Option.some.inj e2
  exact kk q0 H1 locs ls hP1 hD1 hS1 hl
theorem j_objInit (hC : zC C E cc own nL rm) {index a : Nat} (hlink : Cond.methodLink own index Lib.objectInit ∈ zW) (hinst : Cond.instanceMethod Lib.objectInit ∈ zW) (hcode : Cond.code Lib.objectInit ⟨#[0xb1]⟩ 1 none ∈ zW) (hrm : 1 ≤ rm.frames ∧ (st.map fun v => v.category).sum + 12 ≤ rm.locals) (hd : decode cc pc = .ok (.invokespecial index, 3)) (hq : pc + 3 = q) (kk : J C k n ws lv q st) : J C k n ws lv pc (.ref a :: st) := by
  obtain ⟨p, l, e, R, s, m, args, below, meth, c, A, nL', D, Q⟩ := C
  obtain ⟨hx, hb, hml, hown, hts, hG, hA, rfl, rfl, rfl⟩ := hC
  subst hq
  exact fun H locs ls hP hD hS hl => W.objInit hx hb hown (hts _ hlink) (hts _ hinst) (hts _ hcode) rfl (hl.1.trans hml.symm) rfl hd hrm.1 (by
    have h : 2 * (F0 m pc ls (.ref a :: st)).monitorRoom = 0 := rfl
    rw [h, Nat.zero_add]; exact hrm.2) (W.eq (g2 := F0 m (pc + 3) ls st) rfl (kk H locs ls hP hD hS hl))
theorem j_putF (hC : zC C E cc own nL rm) (hI : zI C) {ci a N index : Nat} {T : u_T} {ty : Nat → FieldType} {fs : List Value} (hcl : zCls ci own T N ty) (q0 : Nat) (i : Nat) {nm ds : String} {v : Value} {ws' : va_W} (hw : Cond.fieldLink own index own nm ds ∈ zW) (hT : (T i).2.1 = nm ∧ (T i).2.2.1 = ds ∧ i < N ∧ (T i).2.2.2 = true) (hn : narrow (ty i) v = v) (hfit : fits (ty i) v = true) (he : ws[q0]? = some (a, .inr (ci, fs))) (hl : i < fs.length) (hset : ws.set q0 (a, .inr (ci, fs.set i v)) = ws') (hd : decode cc pc = .ok (.putfield index, 3)) (hq : pc + 3 = q) (kk : J C k n ws' lv q st) : J C k n ws lv pc (v :: .ref a :: st) := by
  obtain ⟨p, l, e, R, s, m, args, below, meth, c, A, nL', D, Q⟩ := C
  obtain ⟨hx, hb, hml, hown, hts, hG, hA, rfl, rfl, rfl⟩ := hC
  subst hq
  subst hset
  obtain ⟨rfl, rfl, hi, hfin⟩ := hT
  exact fun H locs ls hP hD hS h => va_putF hx hb hts hcl.1 ty hcl.2.2.2.1 hcl.2.2.2.2 hown hG.1 hP hD hS q0 he hcl.2.1 i hi (hts _ hw) (fun x h => by rw [hcl.2.2.1 i hi] at h; exact h) hfin hI (hcl.2.2.1 i hi) (hcl.2.2.2.1 i hi) hn hfit hl hd (fun H1 locs1 hP1 hD1 hS1 => kk H1 locs1 ls hP1 hD1 hS1 h)
theorem j_aald (hC : zC C E cc own nL rm) {a z : Nat} {f : Nat → Option Nat} {i : Int32} {r : Option Nat} (q0 : Nat) (ha : ws[q0]? = some (a, .inl (E.2.1 4, z, .inr (.inr (.inr (.inr f)))))) (hin : vp_in i z) (hr : f i.toNatClampNeg = r) (hd : decode cc pc = .ok (.aaload, 1)) (hq : pc + 1 = q) (kk : J C k n ws lv q (va_rf r :: st)) : J C k n ws lv pc (.int i :: .ref a :: st) := by
  obtain ⟨p, l, e, R, s, m, args, below, meth, c, A, nL', D, Q⟩ := C
  obtain ⟨hx, hb, hml, hown, hts, hG, hA, rfl, rfl, rfl⟩ := hC
  subst hq
  subst hr
  exact fun H locs ls hP hD hS hl => va_aldq (C := "PackedCache$Store") hx hb hG.1 hP q0 4 ha rfl hin hd (kk H locs ls hP hD hS hl)
theorem j_aast (hC : zC C E cc own nL rm) {a z v : Nat} {f : Nat → Option Nat} {i : Int32} {vs : List Value} {ws' : va_W} (q0 qk : Nat) (ha : ws[q0]? = some (a, .inl (E.2.1 4, z, .inr (.inr (.inr (.inr f)))))) (hv : ws[qk]? = some (v, .inr (2, vs))) (hin : vp_in i z) (hset : ws.set q0 (a, .inl (E.2.1 4, z, .inr (.inr (.inr (.inr (va_up f i.toNatClampNeg (some v))))))) = ws') (hd : decode cc pc = .ok (.aastore, 1)) (hq : pc + 1 = q) (kk : J C k n ws' lv q st) : J C k n ws lv pc (.ref v :: .int i :: .ref a :: st) := by
  obtain ⟨p, l, e, R, s, m, args, below, meth, c, A, nL', D, Q⟩ := C
  obtain ⟨hx, hb, hml, hown, hts, hG, hA, rfl, rfl, rfl⟩ := hC
  subst hq
  subst hset
  exact fun H locs ls hP hD hS hl => va_astq (r := (RX3, TX3, 14)) hx hb hG.1 hP hD hS q0 4 qk 2 ha rfl hv rfl hin hd (fun H1 locs1 hP1 hD1 hS1 => kk H1 locs1 ls hP1 hD1 hS1 hl)
theorem j_vretA (hC : zC C E cc own nL rm) {V : Option Value} {Wd : (Nat → Nat) → va_W} (hR : zRA C none k n V Wd) (a : Nat → Nat) (hd : decode cc pc = .ok (.return_, 1)) (hV : none = V) (hW : ws = Wd a) : J C k n ws lv pc [] := by
  obtain ⟨p, l, e, R, s, m, args, below, meth, c, A, nL', D, Q⟩ := C
  obtain ⟨hx, hb, hml, hown, hts, hG, hA, rfl, rfl, rfl⟩ := hC
  obtain ⟨hlk, hrt, rfl⟩ := hR
  subst hV
  subst hW
  exact fun H locs ls hP hD hS hl => W.vret hx hb hrt (fun t ht _ => ⟨rfl, a, by rw [ht]; exact hP, hD, hS.F ht⟩) (fun q hq => hS.2.2 q hq) hd hlk
theorem j_iretA (hC : zC C E cc own nL rm) {x : Int32} {V : Option Value} {Wd : (Nat → Nat) → va_W} (hR : zRA C (some .int) k n V Wd) (a : Nat → Nat) (hd : decode cc pc = .ok (.ireturn, 1)) (hV : some (.int x) = V) (hW : ws = Wd a) : J C k n ws lv pc [.int x] := by
  obtain ⟨p, l, e, R, s, m, args, below, meth, c, A, nL', D, Q⟩ := C
  obtain ⟨hx, hb, hml, hown, hts, hG, hA, rfl, rfl, rfl⟩ := hC
  obtain ⟨hlk, hrt, rfl⟩ := hR
  subst hV
  subst hW
  exact fun H locs ls hP hD hS hl => W.iret hx hb hrt (fun t ht _ => ⟨rfl, a, by rw [ht]; exact hP, hD, hS.F ht⟩) (fun q hq => hS.2.2 q hq) hd hlk
end ZR
section ZK
variable {p : Program} {l : Launch} {e : Env} {R : Room} {s : State} {m : MethodId} {args : Array Value} {below : List Frame} {meth : Method} {c : Code} {H : Heap} {locs : List Loc} {cells slots : Nat} {Q : State → Prop}
theorem zcallA {D : va_G} {A : Nat → Prop} {ws wc wr : va_W} {is isR : List Nat} {mc ms : Nat} {pc : Nat} {ls : Array Slot} {rest st0 : List Value} {a : Array Value} {V : Option Value} {Wd : (Nat → Nat) → va_W} (hr : va_Run p l e R s m args below meth c H locs cells slots mc ms (F0 m pc ls st0) rest (zQA D (va_A wc H.size) Wd V a) (va_A wc H.size)) (hP : va_P D vwCl ws H) (hD : va_D A ws) (hS : va_S A s.heap H locs) (hA : ∀ q, s.heap.size ≤ q → A q)
    (h : is.map (fun i => ws[i]?) = wc.map some) (hR : isR.map (fun i => ws[i]?) = wr.map some) (hn : va_nd isR = true) (hdis : ∀ i ∈ isR, i ∉ is)
    (kk : ∀ (a : Nat → Nat) (H1 : Heap) (locs1 : List Loc), va_P D vwCl (wr ++ Wd a) H1 → va_D A (wr ++ Wd a) → va_S A s.heap H1 locs1 → W p l e R s m args below meth c H1 locs1 (cells + mc) (slots + ms) Q (F0 m (pc + 3) ls (V.toList ++ rest))) : W p l e R s m args below meth c H locs cells slots Q (F0 m pc ls st0) := by
  intro T hT X
  obtain ⟨v, st₀, t, T', L, h0, X', hL, e1, e2, ⟨hv, a, hP1, hD1, hz, hk⟩, st⟩ := hr T hT X
  cases hv
  rw [h0] at hz hk
  have hF := va_free (wc := wc) hD hS hA is h
  have hk' : ∀ q : Nat, q < H.size → ¬ va_A wc H.size q → T'.heap[q]? = H[q]? := fun q h1 h2 => by rw [e1]; exact hk q h1 h2
  obtain ⟨hP2, hD2⟩ := va_join (w1 := Wd a) hP hD is isR h hR hn hdis hk' hF (by rw [e1]; exact hP1) hD1
  obtain ⟨t2, a1, b1⟩ := kk a T'.heap (locs ++ L) hP2 hD2
    ⟨Nat.le_trans hS.1 (by rw [e1]; exact hz), fun q h1 h2 => by rw [hk' q (Nat.lt_of_lt_of_le h1 hS.1) (fun z => h2 (hF q z))]; exact hS.2.1 q h1 h2, fun q hq => by
      rcases List.mem_append.mp hq with h | h
      · exact hS.2.2 q h
      · exact hF _ (hL q h)⟩ T' rfl X'
  exact ⟨t2, st t2 a1, b1⟩
end ZK
def zRmA (rmy rm : Room) (nLy mc ms k n : Nat) : Prop := rmy.cells = mc ∧ rmy.slots = ms ∧ rmy.frames + 1 ≤ rm.frames ∧ 8 + (nLy + 11) + rmy.locals ≤ rm.locals ∧ k + mc ≤ rm.cells ∧ n + ms ≤ rm.slots
def zYi (y : MethodName) (cy : ByteArray) (nLy : Nat) (na : Nat) : Prop := Cond.code y cy nLy none ∈ zW ∧ Cond.instanceMethod y ∈ zW ∧ Cond.initialized y.cls ∈ zW ∧ y.name = "<init>" ∧ (y.cls ≠ "java/lang/invoke/MethodHandle" ∧ y.cls ≠ "java/lang/invoke/VarHandle" ∧ (parseMethodDescriptor y.desc).map (fun d => d.parameters.length) = some na)
section ZR
variable {C : zX} {E : zE} {cc : ByteArray} {own : String} {nL : Nat} {rm : Room} {k n : Nat} {ws : va_W} {lv : List (Nat × Value)} {pc q : Nat} {st : List Value}
variable {y : MethodName} {cy : ByteArray} {nLy : Nat} {rety : Option FieldType} {rmy : Room} {wc wr : va_W} {b index na ci mc ms k' n' : Nat} {fs : List Value}
theorem j_callI (hC : zC C E cc own nL rm) (rest : List Value) (Wd : (Nat → Nat) → va_W) (is isR : List Nat)
    (hM : ∀ l sz, zMA l y cy nLy none rmy E [.ref b] wc sz mc ms none Wd) (hy : zYi y cy nLy 0) (hlink : Cond.methodLink own index y ∈ zW ∨ ∃ host, Cond.methodLinkNest own index y host ∈ zN) (hrm : zRmA rmy rm nLy mc ms k n) (hk : k + mc = k') (hn : n + ms = n')
    (hCe : is.map (fun i => ws[i]?) = wc.map some) (hnd : va_nd is = true) (hCr : isR.map (fun i => ws[i]?) = wr.map some) (hndR : va_nd isR = true) (hdis : ∀ i ∈ isR, i ∉ is)
    (hst8 : (rest.map fun v => v.category).sum ≤ 8) (hd : decode cc pc = .ok (.invokespecial index, 3)) (hq : pc + 3 = q)
    (kk : ∀ a, J C k' n' (wr ++ Wd a) lv q rest) : J C k n ws lv pc (.ref b :: rest) := by
  obtain ⟨p, l, e, R, s, m, args, below, meth, c, A, nL', D, Q⟩ := C
  obtain ⟨hx, hb, hml, hown, hts, hG, hA, rfl, rfl, rfl⟩ := hC
  subst hq
  subst hk
  subst hn
  obtain ⟨hy1, hy2, hy4, hy6, hy5⟩ := hy
  obtain ⟨r1, r2, r3, r4, r5, r6⟩ := hrm
  intro H locs ls hP hD hS hl
  have hrun : va_Run p l e R s m args below meth c H locs k n mc ms (F0 m pc ls (.ref b :: rest)) rest (zQA E.1 (va_A wc H.size) Wd none (Value.ref b :: []).toArray) (va_A wc H.size) := by
    rcases hlink with hlink | ⟨host, hlink⟩
    · exact va_runI (cells := k) (slots := n) (e := e) (below := below) (meth := meth) (locs := locs) (g := F0 m pc ls (.ref b :: rest)) (rest := rest) (b := b) (As := []) ⟨hx, hb, hml, hown, hts⟩ (hM l H.size)
        ⟨callB_of 0 hts (zGood' hy1) rfl r1 r2 (hts _ hy4) (hts _ hlink) hy5 ⟨r3, r4⟩, hy6, hts _ hy2⟩
        ⟨zPre_blind, zprep hG hP hD hS hA hCe hnd⟩ rfl rfl hl.1 rfl (lv_room hst8) hd ⟨r5, r6⟩
    · exact va_runIN (cells := k) (slots := n) (e := e) (below := below) (meth := meth) (locs := locs) (g := F0 m pc ls (.ref b :: rest)) (rest := rest) (b := b) (As := []) ⟨hx, hb, hml, hown, hts⟩ (hM l H.size)
        ⟨va_cnB 0 hts (zGood' hy1) rfl r1 r2 (hG.2.1 _ hlink) (hts _ hy4) hy5 ⟨r3, r4⟩, hy6, hts _ hy2⟩
        ⟨zPre_blind, zprep hG hP hD hS hA hCe hnd⟩ rfl rfl hl.1 rfl (lv_room hst8) hd ⟨r5, r6⟩
  exact zcallA hrun hP hD hS hA hCe hCr hndR hdis fun a H1 locs1 hP1 hD1 hS1 => kk a H1 locs1 ls hP1 hD1 hS1 hl
theorem j_callVA (hC : zC C E cc own nL rm) (As rest : List Value) (V : Option Value) (Wd : (Nat → Nat) → va_W) (st' : List Value) (is isR : List Nat)
    (hM : ∀ l sz, zMA l y cy nLy rety rmy E (.ref b :: As) wc sz mc ms V Wd) (hy : zYv y cy nLy rety na) (hlink : Cond.methodLink own index y ∈ zW) (hrm : zRmA rmy rm nLy mc ms k n) (hk : k + mc = k') (hn : n + ms = n')
    (hCe : is.map (fun i => ws[i]?) = wc.map some) (hnd : va_nd is = true) (hCr : isR.map (fun i => ws[i]?) = wr.map some) (hndR : va_nd isR = true) (hdis : ∀ i ∈ isR, i ∉ is)
    (hrecv : wc[0]? = some (b, .inr (ci, fs))) (hcl : (vwCl[ci]?).map (fun z => z.1) = some y.cls) (hna : As.length = na) (hst8 : (rest.map fun v => v.category).sum ≤ 8)
    (hd : decode cc pc = .ok (.invokevirtual index, 3)) (hq : pc + 3 = q) (hs : st = As.reverse ++ .ref b :: rest) (hs' : V.toList ++ rest = st')
    (kk : ∀ a, J C k' n' (wr ++ Wd a) lv q st') : J C k n ws lv pc st := by
  obtain ⟨p, l, e, R, s, m, args, below, meth, c, A, nL', D, Q⟩ := C
  obtain ⟨hx, hb, hml, hown, hts, hG, hA, rfl, rfl, rfl⟩ := hC
  subst hq
  subst hs
  subst hk
  subst hn
  subst hs'
  obtain ⟨hy1, hy2, hy3, hy4, hy5⟩ := hy
  obtain ⟨r1, r2, r3, r4, r5, r6⟩ := hrm
  intro H locs ls hP hD hS hl
  have hPc : va_P E.1 vwCl wc H := fun k q hq => by
    obtain ⟨i, -, h2⟩ := zmap_at hCe hq
    exact hP i q h2
  obtain ⟨qc, hqc, hqn⟩ : ∃ qc, vwCl[ci]? = some qc ∧ qc.1 = y.cls := by
    cases h : vwCl[ci]? with
    | none => rw [h] at hcl; cases hcl
    | some z => rw [h] at hcl; exact ⟨z, rfl, Option.some.inj hcl⟩
  have hrc := va_recv hG.1 hPc hqc hrecv
  rw [hqn] at hrc
  have hrun := va_runV (cells := k) (slots := n) (e := e) (below := below) (meth := meth) (locs := locs) (g := F0 m pc ls (As.reverse ++ .ref b :: rest)) (rest := rest) (C := y.cls) (b := b) (As := As) ⟨hx, hb, hml, hown, hts⟩ (hM l H.size)
    ⟨callB_of na hts (zGood' hy1) rfl r1 r2 (hts _ hy4) (hts _ hlink) hy5 ⟨r3, r4⟩, hts _ hy2, hts _ hy3⟩
    ⟨zPre_blind, hrc, zprep hG hP hD hS hA hCe hnd⟩ rfl hna hl.1 rfl (lv_room hst8) hd ⟨r5, r6⟩
  exact zcallA hrun hP hD hS hA hCe hCr hndR hdis fun a H1 locs1 hP1 hD1 hS1 => kk a H1 locs1 ls hP1 hD1 hS1 hl
end ZR
theorem j_eqw {C : zX} {k n : Nat} {ws ws' : va_W} {lv : List (Nat × Value)} {pc : Nat} {st : List Value} (h : ws = ws') (kk : J C k n ws' lv pc st) : J C k n ws lv pc st := h ▸ kk
