/-! ===== the words that all methods share, the environment, the judgement J ===== -/
def zW : List Cond := lw_tbl.filter goodWord
theorem zT {w : Cond} (i : Nat) (h : tables_1[i]? = some w) (g : goodWord w = true) : w ∈ zW := List.mem_filter.mpr ⟨List.mem_append_right _ (List.mem_of_getElem? h), g⟩
theorem zTs {w : Cond} (i : Nat) (h : (k2_sels lw_privs)[i]? = some w) (g : goodWord w = true) : w ∈ zW := List.mem_filter.mpr ⟨List.mem_append_left _ (List.mem_of_getElem? h), g⟩
theorem zGood {b yc : Cond} (h : yc ∈ zW) : GoodIn (b :: zW) (yc :: zW) := fun w hw => by
  rcases List.mem_cons.mp hw with rfl | hw
  · exact ⟨List.mem_cons_of_mem _ h, good_of_word (List.mem_filter.mp h).2⟩
  · exact ⟨List.mem_cons_of_mem _ hw, good_of_word (List.mem_filter.mp hw).2⟩
theorem zGood' {yc : Cond} (h : yc ∈ zW) : GoodIn zW (yc :: zW) := fun w hw => by
  rcases List.mem_cons.mp hw with rfl | hw
  · exact ⟨h, good_of_word (List.mem_filter.mp h).2⟩
  · exact ⟨hw, good_of_word (List.mem_filter.mp hw).2⟩
/-- the environment: classes and slots; array classes (0 int, 1 byte, 2 boolean, 3 long, 4 Store); static arrays; strings; their rows -/
abbrev zE : Type := va_G × (Nat → ClassId) × (Nat → Nat) × (Nat → Nat) × (Nat → Nat)
def zTy (E : zE) : List (ClassId × FieldType) := [(E.2.1 0, .int), (E.2.1 1, .byte), (E.2.1 2, .boolean), (E.2.1 3, .long), (E.2.1 4, .object "PackedCache$Store")]
def zSn (i : Nat) : String := match i with | 0 => "FORM_BYTES" | 1 => "FORM_SEGMENTS" | 2 => "LANE_WIDTH" | _ => "SMALL_END"
def zS0 (j : Nat) : Int32 := match j with | 0 => 1 | 1 => 2 | 2 => 9 | 3 => 11 | 4 => 11 | 5 => 13 | 6 => 13 | _ => 16
def zS1 (j : Nat) : Int32 := match j with | 0 => 1 | 1 => 1 | 2 => 3 | 3 => 3 | 4 => 3 | 5 => 4 | 6 => 4 | _ => 4
def zS2 (j : Nat) : Int32 := match j with | 0 => 0 | 1 => 0 | 2 => 4 | 3 => 2 | 4 => 8 | 5 => 4 | 6 => 8 | _ => 0
def zS3 (j : Nat) : Int32 := match j with | 0 => 0 | 1 => 0 | 2 => 128 | 3 => 128 | 4 => 128 | 5 => 32768 | 6 => 32768 | _ => 0
def zSv (i j : Nat) : Int32 := match i with | 0 => zS0 j | 1 => zS1 j | 2 => zS2 j | _ => zS3 j
/-- nest words -/
def zIsN : Cond → Bool
  | .fieldLinkNest .. => true
  | .methodLinkNest .. => true
  | _ => false
def zN : List Cond := tables_1.filter zIsN
theorem zNi {w : Cond} (i : Nat) (h : tables_1[i]? = some w) (g : zIsN w = true) : w ∈ zN := List.mem_filter.mpr ⟨List.mem_of_getElem? h, g⟩
theorem zN_warm {w : Cond} (hw : w ∈ zN) {s U : State} (hW : s.WarmedH U.vm) (h : va_Nw w s) : va_Nw w U := by
  have hi := (List.mem_filter.mp hw).2
  cases w <;> first | (cases hi; done) | exact va_Nw.warmF hW h | exact va_Nw.warmM hW h
theorem zN_tab {w : Cond} (hw : w ∈ zN) : w.onTables = true := by
  have hi := (List.mem_filter.mp hw).2
  cases w <;> first | (cases hi; done) | rfl
/-- the String constants: whose, which entry, the text, its bytes -/
def zStr : List (String × Nat × String × List Int32) := [("PackedCache$Teller", 84, "cache", [99, 97, 99, 104, 101]), ("PackedCache$Teller", 130, "sets", [115, 101, 116, 115]), ("PackedCache$Teller", 137, "ways", [119, 97, 121, 115]), ("PackedCache$Teller", 139, "lately", [108, 97, 116, 101, 108, 121]), ("PackedCache$Teller", 141, "weighed", [119, 101, 105, 103, 104, 101, 100]), ("PackedCache$Teller", 92, "line", [108, 105, 110, 101]), ("PackedCache$Teller", 104, "read", [114, 101, 97, 100]), ("PackedCache$Teller", 113, "write", [119, 114, 105, 116, 101]), ("PackedCache$Teller", 115, "unsure", [117, 110, 115, 117, 114, 101]), ("PackedCache$Teller", 122, "saw", [115, 97, 119]), ("PackedCache$Teller", 174, "hit", [104, 105, 116]), ("PackedCache$Teller", 176, "miss", [109, 105, 115, 115]), ("PackedCache", 276, "no such line is dirty", [110, 111, 32, 115, 117, 99, 104, 32, 108, 105, 110, 101, 32, 105, 115, 32, 100, 105, 114, 116, 121]), ("PackedCacheModel", 153, "cache", [99, 97, 99, 104, 101]), ("PackedCacheModel", 180, "sets", [115, 101, 116, 115]), ("PackedCacheModel", 185, "ways", [119, 97, 121, 115]), ("PackedCacheModel", 187, "weighed", [119, 101, 105, 103, 104, 101, 100]), ("PackedCacheModel", 189, "lately", [108, 97, 116, 101, 108, 121]), ("PackedCacheModel", 158, "line", [108, 105, 110, 101]), ("PackedCacheModel", 163, "read", [114, 101, 97, 100]), ("PackedCacheModel", 168, "write", [119, 114, 105, 116, 101]), ("PackedCacheModel", 170, "unsure", [117, 110, 115, 117, 114, 101]), ("PackedCacheModel", 175, "saw", [115, 97, 119]), ("PackedCacheModel", 242, "hit", [104, 105, 116]), ("PackedCacheModel", 244, "miss", [109, 105, 115, 115])]
def zG (E : zE) (A : Nat → Prop) (U : State) (H : Heap) : Prop :=
  va_K E.1 vwCl (zTy E) U ∧ (∀ w ∈ zN, va_Nw w U) ∧
  (∀ i, i < 4 → va_Z "PackedCache" (zSn i) "[I" (.ref (E.2.2.1 i)) A U H ∧ va_T .int (E.2.2.1 i) 8 (fun j => .int (zSv i j)) A U H) ∧
  va_Z "java/lang/String" "COMPACT_STRINGS" "Z" (.int 1) A U H ∧
  (∀ (i : Nat) (q : String × Nat × String × List Int32), zStr[i]? = some q → vk_R q.1 q.2.1 q.2.2.1 (E.2.2.2.1 i) U ∧ va_O "java/lang/String" (E.2.2.2.1 i) A U H ∧ va_OF "java/lang/String" "coder" "B" (.int 0) (E.2.2.2.1 i) A U H ∧ va_OF "java/lang/String" "value" "[B" (.ref (E.2.2.2.2 i)) (E.2.2.2.1 i) A U H ∧ va_T .byte (E.2.2.2.2 i) q.2.2.2.length (fun j => .int (q.2.2.2.getD j 0)) A U H) ∧
  va_Zq "jdk/internal/util/Preconditions" "SIOOBE_FORMATTER" "Ljava/util/function/BiFunction;" A U H ∧ va_AO "PackedCache$Store" U
theorem zG.step {E : zE} {A B : Nat → Prop} {s U : State} {H0 H : Heap} (hG : zG E A s H0) (hW : s.WarmedH U.vm) (hk : ∀ a : Nat, a < H0.size → ¬ A a → H[a]? = H0[a]?) (hAB : ∀ q, B q → A q) : zG E B U H := by
  obtain ⟨h1, h2, h3, h4, h5, h6, h7⟩ := hG
  refine ⟨va_K.moved hW.alike h1, fun w hw => zN_warm hw hW (h2 w hw), fun i hi => ⟨(((h3 i hi).1.kept hk).narrow hAB).moved hW.alike, (((h3 i hi).2.kept hk).narrow hAB).moved hW.alike⟩, ((h4.kept hk).narrow hAB).moved hW.alike, fun i q hq => ?_, ((h6.kept hk).narrow hAB).moved hW.alike, h7.moved hW.alike⟩
  obtain ⟨g1, g2, g3, g4, g5⟩ := h5 i q hq
  exact ⟨g1.warm hW, ((g2.kept hk).narrow hAB).moved hW.alike, ((g3.kept hk).narrow hAB).moved hW.alike, ((g4.kept hk).narrow hAB).moved hW.alike, ((g5.kept hk).narrow hAB).moved hW.alike⟩
theorem zG.same {E : zE} {A : Nat → Prop} {s U : State} {H : Heap} (hG : zG E A s H) (hv : s.vm = U.vm) : zG E A U H := by
  obtain ⟨h1, h2, h3, h4, h5, h6, h7⟩ := hG
  have hal : s.vm.Alike U.vm := by rw [hv]; exact Vm.Alike.refl _
  refine ⟨va_K.moved hal h1, fun w hw => (h2 w hw).same (zN_tab hw) hv, fun i hi => ⟨(h3 i hi).1.moved hal, (h3 i hi).2.moved hal⟩, h4.moved hal, fun i q hq => ?_, h6.moved hal, h7.moved hal⟩
  obtain ⟨g1, g2, g3, g4, g5⟩ := h5 i q hq
  exact ⟨g1.same hv.symm, g2.moved hal, g3.moved hal, g4.moved hal, g5.moved hal⟩
/-- a method's start -/
def zPre (E : zE) (ws : va_W) (sz : Nat) (U : State) : Prop := U.heap.size = sz ∧ va_P E.1 vwCl ws U.heap ∧ va_D (fun _ => True) ws ∧ zG E (va_A ws sz) U U.heap
theorem zPre_blind {E : zE} {ws : va_W} {sz : Nat} {av : List Value} : FrameBlind (va_Pc av (zPre E ws sz)) := by
  intro a U g mk h
  obtain ⟨h0, h1, h2, h3, h4⟩ := h
  exact ⟨h0, h1, h2, h3, zG.same h4 rfl⟩
/-- a method's end: what it returns, its world behind it -/
def zQ (D : va_G) (A : Nat → Prop) (Wd : va_W) (V : Option Value) : Array Value → State → Outcome → State → Prop := fun _ st o t => o = .returned V ∧ va_P D vwCl Wd t.heap ∧ va_F A st t
/-- a method's contract (one that makes no cells): from the world ws to the world Wd, with the answer V -/
def zM (l : Launch) (y : MethodName) (cc : ByteArray) (nL : Nat) (ret : Option FieldType) (rm : Room) (E : zE) (av : List Value) (ws : va_W) (sz : Nat) (V : Option Value) (Wd : va_W) : Prop := Met l y (Cond.code y cc nL ret :: zW) rm (va_Pc av (zPre E ws sz)) (zQ E.1 (va_A ws sz) Wd V) 0 0 (va_A ws sz)
/-- where a walk is -/
abbrev zX : Type := Program × Launch × Env × Room × State × MethodId × Array Value × List Frame × Method × Code × (Nat → Prop) × Nat × va_G × (State → Prop)
def J (C : zX) (k n : Nat) (ws : va_W) (lv : List (Nat × Value)) (pc : Nat) (st : List Value) : Prop := match C with
  | (p, l, e, R, s, m, args, below, meth, c, A, nL, D, Q) => ∀ (H : Heap) (locs : List Loc) (ls : Array Slot), va_P D vwCl ws H → va_D A ws → va_S A s.heap H locs → lv_has ls nL lv → W p l e R s m args below meth c H locs k n Q (F0 m pc ls st)
def zC (C : zX) (E : zE) (cc : ByteArray) (own : String) (nL : Nat) (rm : Room) : Prop := match C with
  | (p, _, _, R, s, m, args, _, _, c, A, nL', D, _) => p.tables.exec = Jvm.exec ∧ c.code = cc ∧ c.maxLocals = nL ∧ s.vm.findClass own = some m.cls ∧ (∀ w ∈ zW, w.before args s = true) ∧ zG E A s s.heap ∧ (∀ q, s.heap.size ≤ q → A q) ∧ R = rm ∧ D = E.1 ∧ nL' = nL
def zR (C : zX) (ret : Option FieldType) (mc ms : Nat) (V : Option Value) (Wd : va_W) : Prop := match C with
  | (_, _, _, _, s, _, args, below, meth, _, A, _, D, Q) => meth.locks = false ∧ meth.sig.returnType = ret ∧ Q = MQ below (zQ D A Wd V) args s mc ms A
theorem zEnter {l : Launch} {y : MethodName} {cc : ByteArray} {nL : Nat} {ret : Option FieldType} {rm : Room} {E : zE} {av : List Value} {ws : va_W} {sz : Nat} {V : Option Value} {Wd : va_W} (hy : plainName y.cls = true) (hav : (lg_sl av).length ≤ nL)
    (h : ∀ C : zX, zC C E cc y.cls nL rm → zR C ret 0 0 V Wd → J C 0 0 ws (lv_args 0 av) 0 []) : zM l y cc nL ret rm E av ws sz V Wd := by
  refine Met.ofW (cc := cc) (maxL := nL) (ret := ret) hy rfl ?_
  intro p e s m args below meth c s₁ B hml hv
  obtain ⟨rfl, hsz, hP, hD0, hG⟩ := hv
  subst hsz
  have hts := atoms_spec (ws := Cond.code y cc nL ret :: zW) B.pre
  have hown : s.vm.findClass y.cls = some m.cls := findClass_of_methodNamed B.named
  have hl := lv_entry av (n := nL) hav
  rw [lg_entry_eq]
  exact h (p, l, e, rm, s, m, av.toArray, below, meth, c, va_A ws s.heap.size, nL, E.1, _) ⟨B.exec, B.bytes, hml, hown, fun w hw => hts w (List.mem_cons_of_mem _ hw), hG, fun q hq => Or.inr hq, rfl, rfl, rfl⟩ ⟨B.notSynchronized, B.returns, rfl⟩ s.heap [] _ hP hD0.self va_S.rf hl
/-! ===== the words of the printed functions ===== -/
def zlet {α β : Type} (v : α) (K : α → Option β) : Option β := K v
def zald {α β : Type} (f : Nat → α) (n : Nat) (i : Int32) (K : α → Option β) : Option β := if i < 0 ∨ n ≤ i.toNatClampNeg then none else K (f i.toNatClampNeg)
def zast {β : Type} (f : Nat → Int32) (n : Nat) (i v : Int32) (K : (Nat → Int32) → Option β) : Option β := if i < 0 ∨ n ≤ i.toNatClampNeg then none else K (upd f i.toNatClampNeg v)
def zlast {β : Type} (f : Nat → Int64) (n : Nat) (i : Int32) (v : Int64) (K : (Nat → Int64) → Option β) : Option β := if i < 0 ∨ n ≤ i.toNatClampNeg then none else K (vp_updL f i.toNatClampNeg v)
def zdiv {β : Type} (x y : Int32) (K : Int32 → Option β) : Option β := if y = 0 then none else K (x / y)
def zrem {β : Type} (x y : Int32) (K : Int32 → Option β) : Option β := if y = 0 then none else K (x - x / y * y)
def zdivl {β : Type} (x y : Int64) (K : Int64 → Option β) : Option β := if y = 0 then none else K (x / y)
def zreml {β : Type} (x y : Int64) (K : Int64 → Option β) : Option β := if y = 0 then none else K (x - x / y * y)
def zbl {β : Type} (v : Int32) (K : Option β) : Option β := if v = 0 ∨ v = 1 then K else none
def zcpy {β : Type} (f g : Nat → Int32) (n0 n1 : Nat) (sp dp n : Int32) (K : (Nat → Int32) → Option β) : Option β := if sp < 0 ∨ dp < 0 ∨ n < 0 ∨ n0 < sp.toNatClampNeg + n.toNatClampNeg ∨ n1 < dp.toNatClampNeg + n.toNatClampNeg then none else K (va_cpy f g sp.toNatClampNeg dp.toNatClampNeg n.toNatClampNeg)
/-- a loop's bound: far above what any run needs -/
noncomputable def zF : Nat := Classical.choose (⟨20000, Nat.le_refl _⟩ : ∃ n : Nat, 20000 ≤ n)
theorem zF_ge : 20000 ≤ zF := Classical.choose_spec (⟨20000, Nat.le_refl _⟩ : ∃ n : Nat, 20000 ≤ n)
theorem zlet_s {α β : Type} {v : α} {K : α → Option β} {r : β} (h : zlet v K = some r) : K v = some r := h
theorem zald_s {α β : Type} {f : Nat → α} {n : Nat} {i : Int32} {K : α → Option β} {r : β} (h : zald f n i K = some r) : vp_in i n ∧ K (f i.toNatClampNeg) = some r := by
  unfold zald at h
  split at h
  · cases h
  · exact ⟨‹_›, h⟩
theorem zast_s {β : Type} {f : Nat → Int32} {n : Nat} {i v : Int32} {K : (Nat → Int32) → Option β} {r : β} (h : zast f n i v K = some r) : vp_in i n ∧ K (upd f i.toNatClampNeg v) = some r := by
  unfold zast at h
  split at h
  · cases h
  · exact ⟨‹_›, h⟩
theorem zlast_s {β : Type} {f : Nat → Int64} {n : Nat} {i : Int32} {v : Int64} {K : (Nat → Int64) → Option β} {r : β} (h : zlast f n i v K = some r) : vp_in i n ∧ K (vp_updL f i.toNatClampNeg v) = some r := by
  unfold zlast at h
  split at h
  · cases h
  · exact ⟨‹_›, h⟩
theorem zguard_s {β : Type} {c : Prop} [Decidable c] {K : Option β} {r : β} (h : (if c then none else K) = some r) : ¬ c ∧ K = some r := by
  split at h
  · cases h
  · exact ⟨‹_›, h⟩
theorem zbl_s {β : Type} {v : Int32} {K : Option β} {r : β} (h : zbl v K = some r) : (v = 0 ∨ v = 1) ∧ K = some r := by
  unfold zbl at h
  split at h
  · exact ⟨‹_›, h⟩
  · cases h
theorem zite_s {β : Type} {c : Prop} [Decidable c] {X Y : Option β} {r : β} (h : (if c then X else Y) = some r) : (c → X = some r) ∧ (¬ c → Y = some r) := ⟨fun hc => by rwa [if_pos hc] at h, fun hc => by rwa [if_neg hc] at h⟩
theorem zbd_s {α β : Type} {F : Option α} {K : α → Option β} {r : β} (h : F.bind K = some r) : ∃ x, F = some x ∧ K x = some r := by
  cases F with
  | none => cases h
  | some a => exact ⟨a, rfl, h⟩
/-! ===== rows ===== -/
/-- a class of the worlds: its number, its fields, its words -/
def zCls (ci : Nat) (Cn : String) (T : u_T) (N : Nat) (ty : Nat → FieldType) : Prop := (∀ w ∈ u_ws Cn T N, w ∈ zW) ∧ vwCl[ci]? = some (Cn, T, N) ∧ (∀ i, i < N → (T i).1 = Cn) ∧ (∀ i, i < N → parseFieldDescriptor (T i).2.2.1 = some (ty i)) ∧ (∀ a, a < N → ∀ b, b < N → a ≠ b → (T a).2.1 ≠ (T b).2.1)
section ZR
variable {C : zX} {E : zE} {cc : ByteArray} {own : String} {nL : Nat} {rm : Room} {k n : Nat} {ws : va_W} {lv : List (Nat × Value)} {pc q : Nat} {st : List Value}
theorem j_sub {lv' : List (Nat × Value)} (ks : List Nat) (hl : lv_pick lv ks = lv') (kk : J C k n ws lv' pc st) : J C k n ws lv pc st := by
  obtain ⟨p, l, e, R, s, m, args, below, meth, c, A, nL', D, Q⟩ := C
  exact fun H locs ls hP hD hS h => kk H locs ls hP hD hS (lv_sub h ks hl)
theorem j_iconst (hC : zC C E cc own nL rm) {z : Int} {v : Int32} (hd : decode cc pc = .ok (.iconst z, 1)) (hq : pc + 1 = q) (hv : Int32.ofInt z = v) (kk : J C k n ws lv q (.int v :: st)) : J C k n ws lv pc (st) := by
  obtain ⟨p, l, e, R, s, m, args, below, meth, c, A, nL', D, Q⟩ := C
  obtain ⟨hx, hb, hml, hown, hts, hG, hA, rfl, rfl, rfl⟩ := hC
  subst hq
  exact fun H locs ls hP hD hS hl => lv_iconst hx hb hd hv (kk H locs ls hP hD hS hl)
theorem j_bipush (hC : zC C E cc own nL rm) {z : Int} {v : Int32} (hd : decode cc pc = .ok (.bipush z, 2)) (hq : pc + 2 = q) (hv : (Int8.ofInt z).toInt32 = v) (kk : J C k n ws lv q (.int v :: st)) : J C k n ws lv pc (st) := by
  obtain ⟨p, l, e, R, s, m, args, below, meth, c, A, nL', D, Q⟩ := C
  obtain ⟨hx, hb, hml, hown, hts, hG, hA, rfl, rfl, rfl⟩ := hC
  subst hq
  exact fun H locs ls hP hD hS hl => lv_bipush hx hb hd hv (kk H locs ls hP hD hS hl)
theorem j_sipush (hC : zC C E cc own nL rm) {z : Int} {v : Int32} (hd : decode cc pc = .ok (.sipush z, 3)) (hq : pc + 3 = q) (hv : (Int16.ofInt z).toInt32 = v) (kk : J C k n ws lv q (.int v :: st)) : J C k n ws lv pc (st) := by
  obtain ⟨p, l, e, R, s, m, args, below, meth, c, A, nL', D, Q⟩ := C
  obtain ⟨hx, hb, hml, hown, hts, hG, hA, rfl, rfl, rfl⟩ := hC
  subst hq
  exact fun H locs ls hP hD hS hl => lv_sipush hx hb hd hv (kk H locs ls hP hD hS hl)
theorem j_lconst (hC : zC C E cc own nL rm) {z : Fin 2} {v : Int64} (hd : decode cc pc = .ok (.lconst z, 1)) (hq : pc + 1 = q) (hv : Int64.ofNat (z : Nat) = v) (kk : J C k n ws lv q (.long v :: st)) : J C k n ws lv pc (st) := by
  obtain ⟨p, l, e, R, s, m, args, below, meth, c, A, nL', D, Q⟩ := C
  obtain ⟨hx, hb, hml, hown, hts, hG, hA, rfl, rfl, rfl⟩ := hC
  subst hq
  exact fun H locs ls hP hD hS hl => lv_lconst hx hb hd hv (kk H locs ls hP hD hS hl)
theorem j_ldc (hC : zC C E cc own nL rm) {i : Nat} {v : Int32} (hd : decode cc pc = .ok (.ldc i, 2)) (hq : pc + 2 = q) (hw : Cond.constant own i v ∈ zW) (kk : J C k n ws lv q (.int v :: st)) : J C k n ws lv pc (st) := by
  obtain ⟨p, l, e, R, s, m, args, below, meth, c, A, nL', D, Q⟩ := C
  obtain ⟨hx, hb, hml, hown, hts, hG, hA, rfl, rfl, rfl⟩ := hC
  subst hq
  exact fun H locs ls hP hD hS hl => lv_ldc hx hb hown (hts _ hw) hd (kk H locs ls hP hD hS hl)
theorem j_ldcw (hC : zC C E cc own nL rm) {i : Nat} {v : Int32} (hd : decode cc pc = .ok (.ldc_w i, 3)) (hq : pc + 3 = q) (hw : Cond.constant own i v ∈ zW) (kk : J C k n ws lv q (.int v :: st)) : J C k n ws lv pc (st) := by
  obtain ⟨p, l, e, R, s, m, args, below, meth, c, A, nL', D, Q⟩ := C
  obtain ⟨hx, hb, hml, hown, hts, hG, hA, rfl, rfl, rfl⟩ := hC
  subst hq
  exact fun H locs ls hP hD hS hl => lv_ldcw hx hb hown (hts _ hw) hd (kk H locs ls hP hD hS hl)
theorem j_ldc2 (hC : zC C E cc own nL rm) {i : Nat} {v : Int64} (hd : decode cc pc = .ok (.ldc2_w i, 3)) (hq : pc + 3 = q) (hw : Cond.constantLong own i v ∈ zW) (kk : J C k n ws lv q (.long v :: st)) : J C k n ws lv pc (st) := by
  obtain ⟨p, l, e, R, s, m, args, below, meth, c, A, nL', D, Q⟩ := C
  obtain ⟨hx, hb, hml, hown, hts, hG, hA, rfl, rfl, rfl⟩ := hC
  subst hq
  exact fun H locs ls hP hD hS hl => lv_ldc2 hx hb hown (hts _ hw) hd (kk H locs ls hP hD hS hl)
theorem j_ldcS (hC : zC C E cc own nL rm) {i : Nat} (j : Nat) {tx : String} {bs : List Int32} (hd : decode cc pc = .ok (.ldc i, 2)) (hq : pc + 2 = q) (hw : zStr[j]? = some (own, i, tx, bs)) (kk : J C k n ws lv q (.ref (E.2.2.2.1 j) :: st)) : J C k n ws lv pc (st) := by
  obtain ⟨p, l, e, R, s, m, args, below, meth, c, A, nL', D, Q⟩ := C
  obtain ⟨hx, hb, hml, hown, hts, hG, hA, rfl, rfl, rfl⟩ := hC
  subst hq
  exact fun H locs ls hP hD hS hl => va_ldcS hx hb hown (hG.2.2.2.2.1 j _ hw).1 hd (kk H locs ls hP hD hS hl)
theorem j_null (hC : zC C E cc own nL rm)  (hd : decode cc pc = .ok (.aconst_null, 1)) (hq : pc + 1 = q)  (kk : J C k n ws lv q (.null :: st)) : J C k n ws lv pc (st) := by
  obtain ⟨p, l, e, R, s, m, args, below, meth, c, A, nL', D, Q⟩ := C
  obtain ⟨hx, hb, hml, hown, hts, hG, hA, rfl, rfl, rfl⟩ := hC
  subst hq
  exact fun H locs ls hP hD hS hl => lv_null hx hb hd (kk H locs ls hP hD hS hl)
theorem j_iload_n (hC : zC C E cc own nL rm) {a : Fin 4} {i : Nat} {x : Int32} (hd : decode cc pc = .ok (.iload_n a, 1)) (hq : pc + 1 = q) (hi : (a : Nat) = i) (d : Nat) (hg : lv[d]? = some (i, .int x)) (kk : J C k n ws lv q (.int x :: st)) : J C k n ws lv pc (st) := by
  obtain ⟨p, l, e, R, s, m, args, below, meth, c, A, nL', D, Q⟩ := C
  obtain ⟨hx, hb, hml, hown, hts, hG, hA, rfl, rfl, rfl⟩ := hC
  subst hq
  exact fun H locs ls hP hD hS hl => lv_iload_n hx hb hd hi (lv_at hl d hg) (kk H locs ls hP hD hS hl)
theorem j_iload (hC : zC C E cc own nL rm) {i : Nat} {x : Int32} (hd : decode cc pc = .ok (.iload i, 2)) (hq : pc + 2 = q) (d : Nat) (hg : lv[d]? = some (i, .int x)) (kk : J C k n ws lv q (.int x :: st)) : J C k n ws lv pc (st) := by
  obtain ⟨p, l, e, R, s, m, args, below, meth, c, A, nL', D, Q⟩ := C
  obtain ⟨hx, hb, hml, hown, hts, hG, hA, rfl, rfl, rfl⟩ := hC
  subst hq
  exact fun H locs ls hP hD hS hl => lv_iload hx hb hd (lv_at hl d hg) (kk H locs ls hP hD hS hl)
theorem j_lload_n (hC : zC C E cc own nL rm) {a : Fin 4} {i : Nat} {x : Int64} (hd : decode cc pc = .ok (.lload_n a, 1)) (hq : pc + 1 = q) (hi : (a : Nat) = i) (d : Nat) (hg : lv[d]? = some (i, .long x)) (kk : J C k n ws lv q (.long x :: st)) : J C k n ws lv pc (st) := by
  obtain ⟨p, l, e, R, s, m, args, below, meth, c, A, nL', D, Q⟩ := C
  obtain ⟨hx, hb, hml, hown, hts, hG, hA, rfl, rfl, rfl⟩ := hC
  subst hq
  exact fun H locs ls hP hD hS hl => lv_lload_n hx hb hd hi (lv_at hl d hg) (kk H locs ls hP hD hS hl)
theorem j_lload (hC : zC C E cc own nL rm) {i : Nat} {x : Int64} (hd : decode cc pc = .ok (.lload i, 2)) (hq : pc + 2 = q) (d : Nat) (hg : lv[d]? = some (i, .long x)) (kk : J C k n ws lv q (.long x :: st)) : J C k n ws lv pc (st) := by
  obtain ⟨p, l, e, R, s, m, args, below, meth, c, A, nL', D, Q⟩ := C
  obtain ⟨hx, hb, hml, hown, hts, hG, hA, rfl, rfl, rfl⟩ := hC
  subst hq
  exact fun H locs ls hP hD hS hl => lv_lload hx hb hd (lv_at hl d hg) (kk H locs ls hP hD hS hl)
theorem j_aload_n (hC : zC C E cc own nL rm) {a : Fin 4} {i : Nat} {x : Nat} (hd : decode cc pc = .ok (.aload_n a, 1)) (hq : pc + 1 = q) (hi : (a : Nat) = i) (d : Nat) (hg : lv[d]? = some (i, .ref x)) (kk : J C k n ws lv q (.ref x :: st)) : J C k n ws lv pc (st) := by
  obtain ⟨p, l, e, R, s, m, args, below, meth, c, A, nL', D, Q⟩ := C
  obtain ⟨hx, hb, hml, hown, hts, hG, hA, rfl, rfl, rfl⟩ := hC
  subst hq
  exact fun H locs ls hP hD hS hl => lv_aload_n hx hb hd hi (lv_at hl d hg) (kk H locs ls hP hD hS hl)
theorem j_aload (hC : zC C E cc own nL rm) {i : Nat} {x : Nat} (hd : decode cc pc = .ok (.aload i, 2)) (hq : pc + 2 = q) (d : Nat) (hg : lv[d]? = some (i, .ref x)) (kk : J C k n ws lv q (.ref x :: st)) : J C k n ws lv pc (st) := by
  obtain ⟨p, l, e, R, s, m, args, below, meth, c, A, nL', D, Q⟩ := C
  obtain ⟨hx, hb, hml, hown, hts, hG, hA, rfl, rfl, rfl⟩ := hC
  subst hq
  exact fun H locs ls hP hD hS hl => lv_aload hx hb hd (lv_at hl d hg) (kk H locs ls hP hD hS hl)
theorem j_istore_n (hC : zC C E cc own nL rm) {a : Fin 4} {i : Nat} {x : Int32} {lv' : List (Nat × Value)} (hd : decode cc pc = .ok (.istore_n a, 1)) (hq : pc + 1 = q) (hi : (a : Nat) = i) (hn : i < nL) (hg : (i, Value.int x) :: lv.filter (fun q => !(q.1 == i) && !(q.1 + 1 == i && q.2.category == 2)) = lv') (kk : J C k n ws lv' q st) : J C k n ws lv pc (.int x :: st) := by
  obtain ⟨p, l, e, R, s, m, args, below, meth, c, A, nL', D, Q⟩ := C
  obtain ⟨hx, hb, hml, hown, hts, hG, hA, rfl, rfl, rfl⟩ := hC
  subst hq
  exact fun H locs ls hP hD hS hl => lv_istore_n hx hb hd hi hl hn hg (fun ls' hl' => kk H locs ls' hP hD hS hl')
theorem j_istore (hC : zC C E cc own nL rm) {i : Nat} {x : Int32} {lv' : List (Nat × Value)} (hd : decode cc pc = .ok (.istore i, 2)) (hq : pc + 2 = q) (hn : i < nL) (hg : (i, Value.int x) :: lv.filter (fun q => !(q.1 == i) && !(q.1 + 1 == i && q.2.category == 2)) = lv') (kk : J C k n ws lv' q st) : J C k n ws lv pc (.int x :: st) := by
  obtain ⟨p, l, e, R, s, m, args, below, meth, c, A, nL', D, Q⟩ := C
  obtain ⟨hx, hb, hml, hown, hts, hG, hA, rfl, rfl, rfl⟩ := hC
  subst hq
  exact fun H locs ls hP hD hS hl => lv_istore hx hb hd hl hn hg (fun ls' hl' => kk H locs ls' hP hD hS hl')
theorem j_astore_n (hC : zC C E cc own nL rm) {a : Fin 4} {i : Nat} {x : Nat} {lv' : List (Nat × Value)} (hd : decode cc pc = .ok (.astore_n a, 1)) (hq : pc + 1 = q) (hi : (a : Nat) = i) (hn : i < nL) (hg : (i, Value.ref x) :: lv.filter (fun q => !(q.1 == i) && !(q.1 + 1 == i && q.2.category == 2)) = lv') (kk : J C k n ws lv' q st) : J C k n ws lv pc (.ref x :: st) := by
  obtain ⟨p, l, e, R, s, m, args, below, meth, c, A, nL', D, Q⟩ := C
  obtain ⟨hx, hb, hml, hown, hts, hG, hA, rfl, rfl, rfl⟩ := hC
  subst hq
  exact fun H locs ls hP hD hS hl => lv_astore_n hx hb hd hi hl hn hg (fun ls' hl' => kk H locs ls' hP hD hS hl')
theorem j_astore (hC : zC C E cc own nL rm) {i : Nat} {x : Nat} {lv' : List (Nat × Value)} (hd : decode cc pc = .ok (.astore i, 2)) (hq : pc + 2 = q) (hn : i < nL) (hg : (i, Value.ref x) :: lv.filter (fun q => !(q.1 == i) && !(q.1 + 1 == i && q.2.category == 2)) = lv') (kk : J C k n ws lv' q st) : J C k n ws lv pc (.ref x :: st) := by
  obtain ⟨p, l, e, R, s, m, args, below, meth, c, A, nL', D, Q⟩ := C
  obtain ⟨hx, hb, hml, hown, hts, hG, hA, rfl, rfl, rfl⟩ := hC
  subst hq
  exact fun H locs ls hP hD hS hl => lv_astore hx hb hd hl hn hg (fun ls' hl' => kk H locs ls' hP hD hS hl')
theorem j_lstore_n (hC : zC C E cc own nL rm) {a : Fin 4} {i : Nat} {x : Int64} {lv' : List (Nat × Value)} (hd : decode cc pc = .ok (.lstore_n a, 1)) (hq : pc + 1 = q) (hi : (a : Nat) = i) (hn : i + 1 < nL) (hg : (i, Value.long x) :: lv.filter (fun q => !(q.1 == i) && (!(q.1 == i + 1) && !(q.1 + 1 == i && q.2.category == 2))) = lv') (kk : J C k n ws lv' q st) : J C k n ws lv pc (.long x :: st) := by
  obtain ⟨p, l, e, R, s, m, args, below, meth, c, A, nL', D, Q⟩ := C
  obtain ⟨hx, hb, hml, hown, hts, hG, hA, rfl, rfl, rfl⟩ := hC
  subst hq
  exact fun H locs ls hP hD hS hl => lv_lstore_n hx hb hd hi hl hn hg (fun ls' hl' => kk H locs ls' hP hD hS hl')
theorem j_lstore (hC : zC C E cc own nL rm) {i : Nat} {x : Int64} {lv' : List (Nat × Value)} (hd : decode cc pc = .ok (.lstore i, 2)) (hq : pc + 2 = q) (hn : i + 1 < nL) (hg : (i, Value.long x) :: lv.filter (fun q => !(q.1 == i) && (!(q.1 == i + 1) && !(q.1 + 1 == i && q.2.category == 2))) = lv') (kk : J C k n ws lv' q st) : J C k n ws lv pc (.long x :: st) := by
  obtain ⟨p, l, e, R, s, m, args, below, meth, c, A, nL', D, Q⟩ := C
  obtain ⟨hx, hb, hml, hown, hts, hG, hA, rfl, rfl, rfl⟩ := hC
  subst hq
  exact fun H locs ls hP hD hS hl => lv_lstore hx hb hd hl hn hg (fun ls' hl' => kk H locs ls' hP hD hS hl')
theorem j_iinc (hC : zC C E cc own nL rm) {i : Nat} {z : Int} {x v : Int32} (lv' : Int32 → List (Nat × Value)) {β : Type} {r : β} {K : Int32 → Option β} (hd : decode cc pc = .ok (.iinc i z, 3)) (hq : pc + 3 = q) (d : Nat) (hk : lv[d]? = some (i, .int x)) (hv : Int32.ofInt z = v) (hn : i < nL) (hg : ∀ w, (i, Value.int w) :: lv.filter (fun q => !(q.1 == i) && !(q.1 + 1 == i && q.2.category == 2)) = lv' w) (hf : zlet (x + v) K = some r) (kk : ∀ w, K w = some r → J C k n ws (lv' w) q st) : J C k n ws lv pc st := by
  obtain ⟨p, l, e, R, s, m, args, below, meth, c, A, nL', D, Q⟩ := C
  obtain ⟨hx, hb, hml, hown, hts, hG, hA, rfl, rfl, rfl⟩ := hC
  subst hq
  subst hv
  exact fun H locs ls hP hD hS hl => lv_iinc hx hb hd hl hk rfl hn (hg _) (fun ls' hl' => kk _ hf H locs ls' hP hD hS hl')
theorem j_iadd (hC : zC C E cc own nL rm) {x y : Int32} {β : Type} {r : β} {K : Int32 → Option β} (hd : decode cc pc = .ok (.iadd, 1)) (hq : pc + 1 = q) (hf : zlet (x + y) K = some r) (kk : ∀ z, K z = some r → J C k n ws lv q (.int z :: st)) : J C k n ws lv pc (.int y :: .int x :: st) := by
  obtain ⟨p, l, e, R, s, m, args, below, meth, c, A, nL', D, Q⟩ := C
  obtain ⟨hx, hb, hml, hown, hts, hG, hA, rfl, rfl, rfl⟩ := hC
  subst hq
  exact fun H locs ls hP hD hS hl => lv_iadd hx hb hd (kk _ hf H locs ls hP hD hS hl)
theorem j_isub (hC : zC C E cc own nL rm) {x y : Int32} {β : Type} {r : β} {K : Int32 → Option β} (hd : decode cc pc = .ok (.isub, 1)) (hq : pc + 1 = q) (hf : zlet (x - y) K = some r) (kk : ∀ z, K z = some r → J C k n ws lv q (.int z :: st)) : J C k n ws lv pc (.int y :: .int x :: st) := by
  obtain ⟨p, l, e, R, s, m, args, below, meth, c, A, nL', D, Q⟩ := C
  obtain ⟨hx, hb, hml, hown, hts, hG, hA, rfl, rfl, rfl⟩ := hC
  subst hq
  exact fun H locs ls hP hD hS hl => lv_isub hx hb hd (kk _ hf H locs ls hP hD hS hl)
theorem j_imul (hC : zC C E cc own nL rm) {x y : Int32} {β : Type} {r : β} {K : Int32 → Option β} (hd : decode cc pc = .ok (.imul, 1)) (hq : pc + 1 = q) (hf : zlet (x * y) K = some r) (kk : ∀ z, K z = some r → J C k n ws lv q (.int z :: st)) : J C k n ws lv pc (.int y :: .int x :: st) := by
  obtain ⟨p, l, e, R, s, m, args, below, meth, c, A, nL', D, Q⟩ := C
  obtain ⟨hx, hb, hml, hown, hts, hG, hA, rfl, rfl, rfl⟩ := hC
  subst hq
  exact fun H locs ls hP hD hS hl => lv_imul hx hb hd (kk _ hf H locs ls hP hD hS hl)
theorem j_iand (hC : zC C E cc own nL rm) {x y : Int32} {β : Type} {r : β} {K : Int32 → Option β} (hd : decode cc pc = .ok (.iand, 1)) (hq : pc + 1 = q) (hf : zlet (x &&& y) K = some r) (kk : ∀ z, K z = some r → J C k n ws lv q (.int z :: st)) : J C k n ws lv pc (.int y :: .int x :: st) := by
  obtain ⟨p, l, e, R, s, m, args, below, meth, c, A, nL', D, Q⟩ := C
  obtain ⟨hx, hb, hml, hown, hts, hG, hA, rfl, rfl, rfl⟩ := hC
  subst hq
  exact fun H locs ls hP hD hS hl => lv_iand hx hb hd (kk _ hf H locs ls hP hD hS hl)
theorem j_ior (hC : zC C E cc own nL rm) {x y : Int32} {β : Type} {r : β} {K : Int32 → Option β} (hd : decode cc pc = .ok (.ior, 1)) (hq : pc + 1 = q) (hf : zlet (x ||| y) K = some r) (kk : ∀ z, K z = some r → J C k n ws lv q (.int z :: st)) : J C k n ws lv pc (.int y :: .int x :: st) := by
  obtain ⟨p, l, e, R, s, m, args, below, meth, c, A, nL', D, Q⟩ := C
  obtain ⟨hx, hb, hml, hown, hts, hG, hA, rfl, rfl, rfl⟩ := hC
  subst hq
  exact fun H locs ls hP hD hS hl => lv_ior hx hb hd (kk _ hf H locs ls hP hD hS hl)
theorem j_ixor (hC : zC C E cc own nL rm) {x y : Int32} {β : Type} {r : β} {K : Int32 → Option β} (hd : decode cc pc = .ok (.ixor, 1)) (hq : pc + 1 = q) (hf : zlet (x ^^^ y) K = some r) (kk : ∀ z, K z = some r → J C k n ws lv q (.int z :: st)) : J C k n ws lv pc (.int y :: .int x :: st) := by
  obtain ⟨p, l, e, R, s, m, args, below, meth, c, A, nL', D, Q⟩ := C
  obtain ⟨hx, hb, hml, hown, hts, hG, hA, rfl, rfl, rfl⟩ := hC
  subst hq
  exact fun H locs ls hP hD hS hl => lv_ixor hx hb hd (kk _ hf H locs ls hP hD hS hl)
theorem j_ishl (hC : zC C E cc own nL rm) {x y : Int32} {β : Type} {r : β} {K : Int32 → Option β} (hd : decode cc pc = .ok (.ishl, 1)) (hq : pc + 1 = q) (hf : zlet (x <<< (y &&& 31)) K = some r) (kk : ∀ z, K z = some r → J C k n ws lv q (.int z :: st)) : J C k n ws lv pc (.int y :: .int x :: st) := by
  obtain ⟨p, l, e, R, s, m, args, below, meth, c, A, nL', D, Q⟩ := C
  obtain ⟨hx, hb, hml, hown, hts, hG, hA, rfl, rfl, rfl⟩ := hC
  subst hq
  exact fun H locs ls hP hD hS hl => lv_ishl hx hb hd (kk _ hf H locs ls hP hD hS hl)
theorem j_ishr (hC : zC C E cc own nL rm) {x y : Int32} {β : Type} {r : β} {K : Int32 → Option β} (hd : decode cc pc = .ok (.ishr, 1)) (hq : pc + 1 = q) (hf : zlet (x >>> (y &&& 31)) K = some r) (kk : ∀ z, K z = some r → J C k n ws lv q (.int z :: st)) : J C k n ws lv pc (.int y :: .int x :: st) := by
  obtain ⟨p, l, e, R, s, m, args, below, meth, c, A, nL', D, Q⟩ := C
  obtain ⟨hx, hb, hml, hown, hts, hG, hA, rfl, rfl, rfl⟩ := hC
  subst hq
  exact fun H locs ls hP hD hS hl => lv_ishr hx hb hd (kk _ hf H locs ls hP hD hS hl)
theorem j_ladd (hC : zC C E cc own nL rm) {x y : Int64} {β : Type} {r : β} {K : Int64 → Option β} (hd : decode cc pc = .ok (.ladd, 1)) (hq : pc + 1 = q) (hf : zlet (x + y) K = some r) (kk : ∀ z, K z = some r → J C k n ws lv q (.long z :: st)) : J C k n ws lv pc (.long y :: .long x :: st) := by
  obtain ⟨p, l, e, R, s, m, args, below, meth, c, A, nL', D, Q⟩ := C
  obtain ⟨hx, hb, hml, hown, hts, hG, hA, rfl, rfl, rfl⟩ := hC
  subst hq
  exact fun H locs ls hP hD hS hl => lv_ladd hx hb hd (kk _ hf H locs ls hP hD hS hl)
theorem j_lsub (hC : zC C E cc own nL rm) {x y : Int64} {β : Type} {r : β} {K : Int64 → Option β} (hd : decode cc pc = .ok (.lsub, 1)) (hq : pc + 1 = q) (hf : zlet (x - y) K = some r) (kk : ∀ z, K z = some r → J C k n ws lv q (.long z :: st)) : J C k n ws lv pc (.long y :: .long x :: st) := by
  obtain ⟨p, l, e, R, s, m, args, below, meth, c, A, nL', D, Q⟩ := C
  obtain ⟨hx, hb, hml, hown, hts, hG, hA, rfl, rfl, rfl⟩ := hC
  subst hq
  exact fun H locs ls hP hD hS hl => lv_lsub hx hb hd (kk _ hf H locs ls hP hD hS hl)
theorem j_lmul (hC : zC C E cc own nL rm) {x y : Int64} {β : Type} {r : β} {K : Int64 → Option β} (hd : decode cc pc = .ok (.lmul, 1)) (hq : pc + 1 = q) (hf : zlet (x * y) K = some r) (kk : ∀ z, K z = some r → J C k n ws lv q (.long z :: st)) : J C k n ws lv pc (.long y :: .long x :: st) := by
  obtain ⟨p, l, e, R, s, m, args, below, meth, c, A, nL', D, Q⟩ := C
  obtain ⟨hx, hb, hml, hown, hts, hG, hA, rfl, rfl, rfl⟩ := hC
  subst hq
  exact fun H locs ls hP hD hS hl => lv_lmul hx hb hd (kk _ hf H locs ls hP hD hS hl)
theorem j_land (hC : zC C E cc own nL rm) {x y : Int64} {β : Type} {r : β} {K : Int64 → Option β} (hd : decode cc pc = .ok (.land, 1)) (hq : pc + 1 = q) (hf : zlet (x &&& y) K = some r) (kk : ∀ z, K z = some r → J C k n ws lv q (.long z :: st)) : J C k n ws lv pc (.long y :: .long x :: st) := by
  obtain ⟨p, l, e, R, s, m, args, below, meth, c, A, nL', D, Q⟩ := C
  obtain ⟨hx, hb, hml, hown, hts, hG, hA, rfl, rfl, rfl⟩ := hC
  subst hq
  exact fun H locs ls hP hD hS hl => lv_land hx hb hd (kk _ hf H locs ls hP hD hS hl)
theorem j_lor (hC : zC C E cc own nL rm) {x y : Int64} {β : Type} {r : β} {K : Int64 → Option β} (hd : decode cc pc = .ok (.lor, 1)) (hq : pc + 1 = q) (hf : zlet (x ||| y) K = some r) (kk : ∀ z, K z = some r → J C k n ws lv q (.long z :: st)) : J C k n ws lv pc (.long y :: .long x :: st) := by
  obtain ⟨p, l, e, R, s, m, args, below, meth, c, A, nL', D, Q⟩ := C
  obtain ⟨hx, hb, hml, hown, hts, hG, hA, rfl, rfl, rfl⟩ := hC
  subst hq
  exact fun H locs ls hP hD hS hl => lv_lor hx hb hd (kk _ hf H locs ls hP hD hS hl)
theorem j_lxor (hC : zC C E cc own nL rm) {x y : Int64} {β : Type} {r : β} {K : Int64 → Option β} (hd : decode cc pc = .ok (.lxor, 1)) (hq : pc + 1 = q) (hf : zlet (x ^^^ y) K = some r) (kk : ∀ z, K z = some r → J C k n ws lv q (.long z :: st)) : J C k n ws lv pc (.long y :: .long x :: st) := by
  obtain ⟨p, l, e, R, s, m, args, below, meth, c, A, nL', D, Q⟩ := C
  obtain ⟨hx, hb, hml, hown, hts, hG, hA, rfl, rfl, rfl⟩ := hC
  subst hq
  exact fun H locs ls hP hD hS hl => lv_lxor hx hb hd (kk _ hf H locs ls hP hD hS hl)
theorem j_ineg (hC : zC C E cc own nL rm) {x : Int32} {β : Type} {r : β} {K : Int32 → Option β} (hd : decode cc pc = .ok (.ineg, 1)) (hq : pc + 1 = q) (hf : zlet (-x) K = some r) (kk : ∀ z, K z = some r → J C k n ws lv q (.int z :: st)) : J C k n ws lv pc (.int x :: st) := by
  obtain ⟨p, l, e, R, s, m, args, below, meth, c, A, nL', D, Q⟩ := C
  obtain ⟨hx, hb, hml, hown, hts, hG, hA, rfl, rfl, rfl⟩ := hC
  subst hq
  exact fun H locs ls hP hD hS hl => lv_ineg hx hb hd (kk _ hf H locs ls hP hD hS hl)
theorem j_lneg (hC : zC C E cc own nL rm) {x : Int64} {β : Type} {r : β} {K : Int64 → Option β} (hd : decode cc pc = .ok (.lneg, 1)) (hq : pc + 1 = q) (hf : zlet (-x) K = some r) (kk : ∀ z, K z = some r → J C k n ws lv q (.long z :: st)) : J C k n ws lv pc (.long x :: st) := by
  obtain ⟨p, l, e, R, s, m, args, below, meth, c, A, nL', D, Q⟩ := C
  obtain ⟨hx, hb, hml, hown, hts, hG, hA, rfl, rfl, rfl⟩ := hC
  subst hq
  exact fun H locs ls hP hD hS hl => lv_lneg hx hb hd (kk _ hf H locs ls hP hD hS hl)
theorem j_lcmp (hC : zC C E cc own nL rm) {x y : Int64} {β : Type} {r : β} {K : Int32 → Option β} (hd : decode cc pc = .ok (.lcmp, 1)) (hq : pc + 1 = q) (hf : zlet (lg_cmp x y) K = some r) (kk : ∀ z, K z = some r → J C k n ws lv q (.int z :: st)) : J C k n ws lv pc (.long y :: .long x :: st) := by
  obtain ⟨p, l, e, R, s, m, args, below, meth, c, A, nL', D, Q⟩ := C
  obtain ⟨hx, hb, hml, hown, hts, hG, hA, rfl, rfl, rfl⟩ := hC
  subst hq
  exact fun H locs ls hP hD hS hl => W.lcmp hx hb hd (kk _ hf H locs ls hP hD hS hl)
theorem j_i2l (hC : zC C E cc own nL rm) {x : Int32} {β : Type} {r : β} {K : Int64 → Option β} (hd : decode cc pc = .ok (.i2l, 1)) (hq : pc + 1 = q) (hf : zlet (x.toInt64) K = some r) (kk : ∀ z, K z = some r → J C k n ws lv q (.long z :: st)) : J C k n ws lv pc (.int x :: st) := by
  obtain ⟨p, l, e, R, s, m, args, below, meth, c, A, nL', D, Q⟩ := C
  obtain ⟨hx, hb, hml, hown, hts, hG, hA, rfl, rfl, rfl⟩ := hC
  subst hq
  exact fun H locs ls hP hD hS hl => lv_i2l hx hb hd rfl (kk _ hf H locs ls hP hD hS hl)
theorem j_l2i (hC : zC C E cc own nL rm) {x : Int64} {β : Type} {r : β} {K : Int32 → Option β} (hd : decode cc pc = .ok (.l2i, 1)) (hq : pc + 1 = q) (hf : zlet (x.toInt32) K = some r) (kk : ∀ z, K z = some r → J C k n ws lv q (.int z :: st)) : J C k n ws lv pc (.long x :: st) := by
  obtain ⟨p, l, e, R, s, m, args, below, meth, c, A, nL', D, Q⟩ := C
  obtain ⟨hx, hb, hml, hown, hts, hG, hA, rfl, rfl, rfl⟩ := hC
  subst hq
  exact fun H locs ls hP hD hS hl => lv_l2i hx hb hd rfl (kk _ hf H locs ls hP hD hS hl)
theorem j_i2b (hC : zC C E cc own nL rm) {x : Int32} {β : Type} {r : β} {K : Int32 → Option β} (hd : decode cc pc = .ok (.i2b, 1)) (hq : pc + 1 = q) (hf : zlet (x.toInt8.toInt32) K = some r) (kk : ∀ z, K z = some r → J C k n ws lv q (.int z :: st)) : J C k n ws lv pc (.int x :: st) := by
  obtain ⟨p, l, e, R, s, m, args, below, meth, c, A, nL', D, Q⟩ := C
  obtain ⟨hx, hb, hml, hown, hts, hG, hA, rfl, rfl, rfl⟩ := hC
  subst hq
  exact fun H locs ls hP hD hS hl => lv_i2b hx hb hd rfl (kk _ hf H locs ls hP hD hS hl)
theorem j_i2c (hC : zC C E cc own nL rm) {x : Int32} {β : Type} {r : β} {K : Int32 → Option β} (hd : decode cc pc = .ok (.i2c, 1)) (hq : pc + 1 = q) (hf : zlet ((x.toUInt32 % 65536).toInt32) K = some r) (kk : ∀ z, K z = some r → J C k n ws lv q (.int z :: st)) : J C k n ws lv pc (.int x :: st) := by
  obtain ⟨p, l, e, R, s, m, args, below, meth, c, A, nL', D, Q⟩ := C
  obtain ⟨hx, hb, hml, hown, hts, hG, hA, rfl, rfl, rfl⟩ := hC
  subst hq
  exact fun H locs ls hP hD hS hl => lv_i2c hx hb hd rfl (kk _ hf H locs ls hP hD hS hl)
theorem j_iushr (hC : zC C E cc own nL rm) {x y : Int32} {β : Type} {r : β} {K : Int32 → Option β} (hd : decode cc pc = .ok (.iushr, 1)) (hq : pc + 1 = q) (hf : zlet ((x.toUInt32 >>> (y.toUInt32 &&& Int32.toUInt32 31)).toInt32) K = some r) (kk : ∀ z, K z = some r → J C k n ws lv q (.int z :: st)) : J C k n ws lv pc (.int y :: .int x :: st) := by
  obtain ⟨p, l, e, R, s, m, args, below, meth, c, A, nL', D, Q⟩ := C
  obtain ⟨hx, hb, hml, hown, hts, hG, hA, rfl, rfl, rfl⟩ := hC
  subst hq
  exact fun H locs ls hP hD hS hl => lv_iushr hx hb hd rfl (kk _ hf H locs ls hP hD hS hl)
theorem j_lshl (hC : zC C E cc own nL rm) {x : Int64} {y : Int32} {β : Type} {r : β} {K : Int64 → Option β} (hd : decode cc pc = .ok (.lshl, 1)) (hq : pc + 1 = q) (hf : zlet (x <<< (y.toInt64 &&& 63)) K = some r) (kk : ∀ z, K z = some r → J C k n ws lv q (.long z :: st)) : J C k n ws lv pc (.int y :: .long x :: st) := by
  obtain ⟨p, l, e, R, s, m, args, below, meth, c, A, nL', D, Q⟩ := C
  obtain ⟨hx, hb, hml, hown, hts, hG, hA, rfl, rfl, rfl⟩ := hC
  subst hq
  exact fun H locs ls hP hD hS hl => lv_lshl hx hb hd rfl (kk _ hf H locs ls hP hD hS hl)
theorem j_lshr (hC : zC C E cc own nL rm) {x : Int64} {y : Int32} {β : Type} {r : β} {K : Int64 → Option β} (hd : decode cc pc = .ok (.lshr, 1)) (hq : pc + 1 = q) (hf : zlet (x >>> (y.toInt64 &&& 63)) K = some r) (kk : ∀ z, K z = some r → J C k n ws lv q (.long z :: st)) : J C k n ws lv pc (.int y :: .long x :: st) := by
  obtain ⟨p, l, e, R, s, m, args, below, meth, c, A, nL', D, Q⟩ := C
  obtain ⟨hx, hb, hml, hown, hts, hG, hA, rfl, rfl, rfl⟩ := hC
  subst hq
  exact fun H locs ls hP hD hS hl => lv_lshr hx hb hd rfl (kk _ hf H locs ls hP hD hS hl)
theorem j_idiv (hC : zC C E cc own nL rm) {x y : Int32} {β : Type} {r : β} {K : Int32 → Option β} (hd : decode cc pc = .ok (.idiv, 1)) (hq : pc + 1 = q) (hf : zdiv x y K = some r) (kk : ∀ z, K z = some r → J C k n ws lv q (.int z :: st)) : J C k n ws lv pc (.int y :: .int x :: st) := by
  obtain ⟨p, l, e, R, s, m, args, below, meth, c, A, nL', D, Q⟩ := C
  obtain ⟨hx, hb, hml, hown, hts, hG, hA, rfl, rfl, rfl⟩ := hC
  subst hq
  have h := zguard_s hf
  exact fun H locs ls hP hD hS hl => lv_idiv hx hb hd h.1 (kk _ h.2 H locs ls hP hD hS hl)
theorem j_irem (hC : zC C E cc own nL rm) {x y : Int32} {β : Type} {r : β} {K : Int32 → Option β} (hd : decode cc pc = .ok (.irem, 1)) (hq : pc + 1 = q) (hf : zrem x y K = some r) (kk : ∀ z, K z = some r → J C k n ws lv q (.int z :: st)) : J C k n ws lv pc (.int y :: .int x :: st) := by
  obtain ⟨p, l, e, R, s, m, args, below, meth, c, A, nL', D, Q⟩ := C
  obtain ⟨hx, hb, hml, hown, hts, hG, hA, rfl, rfl, rfl⟩ := hC
  subst hq
  have h := zguard_s hf
  exact fun H locs ls hP hD hS hl => lv_irem hx hb hd h.1 (kk _ h.2 H locs ls hP hD hS hl)
theorem j_ldiv (hC : zC C E cc own nL rm) {x y : Int64} {β : Type} {r : β} {K : Int64 → Option β} (hd : decode cc pc = .ok (.ldiv, 1)) (hq : pc + 1 = q) (hf : zdivl x y K = some r) (kk : ∀ z, K z = some r → J C k n ws lv q (.long z :: st)) : J C k n ws lv pc (.long y :: .long x :: st) := by
  obtain ⟨p, l, e, R, s, m, args, below, meth, c, A, nL', D, Q⟩ := C
  obtain ⟨hx, hb, hml, hown, hts, hG, hA, rfl, rfl, rfl⟩ := hC
  subst hq
  have h := zguard_s hf
  exact fun H locs ls hP hD hS hl => lv_ldiv hx hb hd h.1 (kk _ h.2 H locs ls hP hD hS hl)
theorem j_lrem (hC : zC C E cc own nL rm) {x y : Int64} {β : Type} {r : β} {K : Int64 → Option β} (hd : decode cc pc = .ok (.lrem, 1)) (hq : pc + 1 = q) (hf : zreml x y K = some r) (kk : ∀ z, K z = some r → J C k n ws lv q (.long z :: st)) : J C k n ws lv pc (.long y :: .long x :: st) := by
  obtain ⟨p, l, e, R, s, m, args, below, meth, c, A, nL', D, Q⟩ := C
  obtain ⟨hx, hb, hml, hown, hts, hG, hA, rfl, rfl, rfl⟩ := hC
  subst hq
  have h := zguard_s hf
  exact fun H locs ls hP hD hS hl => lv_lrem hx hb hd h.1 (kk _ h.2 H locs ls hP hD hS hl)
theorem j_dup (hC : zC C E cc own nL rm) {va : Value} (hd : decode cc pc = .ok (.dup, 1)) (hq : pc + 1 = q) (h1 : va.category = 1) (kk : J C k n ws lv q (va :: va :: st)) : J C k n ws lv pc (va :: st) := by
  obtain ⟨p, l, e, R, s, m, args, below, meth, c, A, nL', D, Q⟩ := C
  obtain ⟨hx, hb, hml, hown, hts, hG, hA, rfl, rfl, rfl⟩ := hC
  subst hq
  exact fun H locs ls hP hD hS hl => lv_dup hx hb hd h1 (kk H locs ls hP hD hS hl)
theorem j_pop (hC : zC C E cc own nL rm) {va : Value} (hd : decode cc pc = .ok (.pop, 1)) (hq : pc + 1 = q) (h1 : va.category = 1) (kk : J C k n ws lv q (st)) : J C k n ws lv pc (va :: st) := by
  obtain ⟨p, l, e, R, s, m, args, below, meth, c, A, nL', D, Q⟩ := C
  obtain ⟨hx, hb, hml, hown, hts, hG, hA, rfl, rfl, rfl⟩ := hC
  subst hq
  exact fun H locs ls hP hD hS hl => lv_pop hx hb hd h1 (kk H locs ls hP hD hS hl)
theorem j_dup_x1 (hC : zC C E cc own nL rm) {va vb : Value} (hd : decode cc pc = .ok (.dup_x1, 1)) (hq : pc + 1 = q) (h1 : va.category = 1) (h2 : vb.category = 1) (kk : J C k n ws lv q (va :: vb :: va :: st)) : J C k n ws lv pc (va :: vb :: st) := by
  obtain ⟨p, l, e, R, s, m, args, below, meth, c, A, nL', D, Q⟩ := C
  obtain ⟨hx, hb, hml, hown, hts, hG, hA, rfl, rfl, rfl⟩ := hC
  subst hq
  exact fun H locs ls hP hD hS hl => lv_dup_x1 hx hb hd h1 h2 (kk H locs ls hP hD hS hl)
theorem j_dup_x2 (hC : zC C E cc own nL rm) {va vb vd : Value} (hd : decode cc pc = .ok (.dup_x2, 1)) (hq : pc + 1 = q) (h1 : va.category = 1) (h2 : vb.category = 1) (h3 : vd.category = 1) (kk : J C k n ws lv q (va :: vb :: vd :: va :: st)) : J C k n ws lv pc (va :: vb :: vd :: st) := by
  obtain ⟨p, l, e, R, s, m, args, below, meth, c, A, nL', D, Q⟩ := C
  obtain ⟨hx, hb, hml, hown, hts, hG, hA, rfl, rfl, rfl⟩ := hC
  subst hq
  exact fun H locs ls hP hD hS hl => lv_dup_x2 hx hb hd h1 h2 h3 (kk H locs ls hP hD hS hl)
theorem j_dup2 (hC : zC C E cc own nL rm) {va vb : Value} (hd : decode cc pc = .ok (.dup2, 1)) (hq : pc + 1 = q) (h1 : va.category = 1) (h2 : vb.category = 1) (kk : J C k n ws lv q (va :: vb :: va :: vb :: st)) : J C k n ws lv pc (va :: vb :: st) := by
  obtain ⟨p, l, e, R, s, m, args, below, meth, c, A, nL', D, Q⟩ := C
  obtain ⟨hx, hb, hml, hown, hts, hG, hA, rfl, rfl, rfl⟩ := hC
  subst hq
  exact fun H locs ls hP hD hS hl => lv_dup2_11 hx hb hd h1 h2 (kk H locs ls hP hD hS hl)
theorem j_if_eq (hC : zC C E cc own nL rm) {x : Int32} {off : Int} {tgt : Nat} {β : Type} {r : β} {X Y : Option β} (hd : decode cc pc = .ok (.ifCond .eq off, 3)) (ht : (pc : Int) + off = (tgt : Int)) (hq : pc + 3 = q) (hf : (if x = 0 then X else Y) = some r) (kt : x = 0 → X = some r → J C k n ws lv tgt st) (kf : ¬ x = 0 → Y = some r → J C k n ws lv q st) : J C k n ws lv pc (.int x :: st) := by
  obtain ⟨p, l, e, R, s, m, args, below, meth, c, A, nL', D, Q⟩ := C
  obtain ⟨hx, hb, hml, hown, hts, hG, hA, rfl, rfl, rfl⟩ := hC
  subst hq
  exact fun H locs ls hP hD hS hl => lv_if_eq hx hb hd ht (fun c => kt c ((zite_s hf).1 c) H locs ls hP hD hS hl) (fun c => kf c ((zite_s hf).2 c) H locs ls hP hD hS hl)
theorem j_icmp_eq (hC : zC C E cc own nL rm) {x y : Int32} {off : Int} {tgt : Nat} {β : Type} {r : β} {X Y : Option β} (hd : decode cc pc = .ok (.if_icmp .eq off, 3)) (ht : (pc : Int) + off = (tgt : Int)) (hq : pc + 3 = q) (hf : (if x = y then X else Y) = some r) (kt : x = y → X = some r → J C k n ws lv tgt st) (kf : ¬ x = y → Y = some r → J C k n ws lv q st) : J C k n ws lv pc (.int y :: .int x :: st) := by
  obtain ⟨p, l, e, R, s, m, args, below, meth, c, A, nL', D, Q⟩ := C
  obtain ⟨hx, hb, hml, hown, hts, hG, hA, rfl, rfl, rfl⟩ := hC
  subst hq
  exact fun H locs ls hP hD hS hl => lv_icmp_eq hx hb hd ht (fun c => kt c ((zite_s hf).1 c) H locs ls hP hD hS hl) (fun c => kf c ((zite_s hf).2 c) H locs ls hP hD hS hl)
theorem j_if_lt (hC : zC C E cc own nL rm) {x : Int32} {off : Int} {tgt : Nat} {β : Type} {r : β} {X Y : Option β} (hd : decode cc pc = .ok (.ifCond .lt off, 3)) (ht : (pc : Int) + off = (tgt : Int)) (hq : pc + 3 = q) (hf : (if x < 0 then X else Y) = some r) (kt : x < 0 → X = some r → J C k n ws lv tgt st) (kf : ¬ x < 0 → Y = some r → J C k n ws lv q st) : J C k n ws lv pc (.int x :: st) := by
  obtain ⟨p, l, e, R, s, m, args, below, meth, c, A, nL', D, Q⟩ := C
  obtain ⟨hx, hb, hml, hown, hts, hG, hA, rfl, rfl, rfl⟩ := hC
  subst hq
  exact fun H locs ls hP hD hS hl => lv_if_lt hx hb hd ht (fun c => kt c ((zite_s hf).1 c) H locs ls hP hD hS hl) (fun c => kf c ((zite_s hf).2 c) H locs ls hP hD hS hl)
theorem j_icmp_lt (hC : zC C E cc own nL rm) {x y : Int32} {off : Int} {tgt : Nat} {β : Type} {r : β} {X Y : Option β} (hd : decode cc pc = .ok (.if_icmp .lt off, 3)) (ht : (pc : Int) + off = (tgt : Int)) (hq : pc + 3 = q) (hf : (if x < y then X else Y) = some r) (kt : x < y → X = some r → J C k n ws lv tgt st) (kf : ¬ x < y → Y = some r → J C k n ws lv q st) : J C k n ws lv pc (.int y :: .int x :: st) := by
  obtain ⟨p, l, e, R, s, m, args, below, meth, c, A, nL', D, Q⟩ := C
  obtain ⟨hx, hb, hml, hown, hts, hG, hA, rfl, rfl, rfl⟩ := hC
  subst hq
  exact fun H locs ls hP hD hS hl => lv_icmp_lt hx hb hd ht (fun c => kt c ((zite_s hf).1 c) H locs ls hP hD hS hl) (fun c => kf c ((zite_s hf).2 c) H locs ls hP hD hS hl)
theorem j_if_ge (hC : zC C E cc own nL rm) {x : Int32} {off : Int} {tgt : Nat} {β : Type} {r : β} {X Y : Option β} (hd : decode cc pc = .ok (.ifCond .ge off, 3)) (ht : (pc : Int) + off = (tgt : Int)) (hq : pc + 3 = q) (hf : (if 0 ≤ x then X else Y) = some r) (kt : 0 ≤ x → X = some r → J C k n ws lv tgt st) (kf : ¬ 0 ≤ x → Y = some r → J C k n ws lv q st) : J C k n ws lv pc (.int x :: st) := by
  obtain ⟨p, l, e, R, s, m, args, below, meth, c, A, nL', D, Q⟩ := C
  obtain ⟨hx, hb, hml, hown, hts, hG, hA, rfl, rfl, rfl⟩ := hC
  subst hq
  exact fun H locs ls hP hD hS hl => lv_if_ge hx hb hd ht (fun c => kt c ((zite_s hf).1 c) H locs ls hP hD hS hl) (fun c => kf c ((zite_s hf).2 c) H locs ls hP hD hS hl)
theorem j_icmp_ge (hC : zC C E cc own nL rm) {x y : Int32} {off : Int} {tgt : Nat} {β : Type} {r : β} {X Y : Option β} (hd : decode cc pc = .ok (.if_icmp .ge off, 3)) (ht : (pc : Int) + off = (tgt : Int)) (hq : pc + 3 = q) (hf : (if y ≤ x then X else Y) = some r) (kt : y ≤ x → X = some r → J C k n ws lv tgt st) (kf : ¬ y ≤ x → Y = some r → J C k n ws lv q st) : J C k n ws lv pc (.int y :: .int x :: st) := by
  obtain ⟨p, l, e, R, s, m, args, below, meth, c, A, nL', D, Q⟩ := C
  obtain ⟨hx, hb, hml, hown, hts, hG, hA, rfl, rfl, rfl⟩ := hC
  subst hq
  exact fun H locs ls hP hD hS hl => lv_icmp_ge hx hb hd ht (fun c => kt c ((zite_s hf).1 c) H locs ls hP hD hS hl) (fun c => kf c ((zite_s hf).2 c) H locs ls hP hD hS hl)
theorem j_if_gt (hC : zC C E cc own nL rm) {x : Int32} {off : Int} {tgt : Nat} {β : Type} {r : β} {X Y : Option β} (hd : decode cc pc = .ok (.ifCond .gt off, 3)) (ht : (pc : Int) + off = (tgt : Int)) (hq : pc + 3 = q) (hf : (if 0 < x then X else Y) = some r) (kt : 0 < x → X = some r → J C k n ws lv tgt st) (kf : ¬ 0 < x → Y = some r → J C k n ws lv q st) : J C k n ws lv pc (.int x :: st) := by
  obtain ⟨p, l, e, R, s, m, args, below, meth, c, A, nL', D, Q⟩ := C
  obtain ⟨hx, hb, hml, hown, hts, hG, hA, rfl, rfl, rfl⟩ := hC
  subst hq
  exact fun H locs ls hP hD hS hl => lv_if_gt hx hb hd ht (fun c => kt c ((zite_s hf).1 c) H locs ls hP hD hS hl) (fun c => kf c ((zite_s hf).2 c) H locs ls hP hD hS hl)
theorem j_icmp_gt (hC : zC C E cc own nL rm) {x y : Int32} {off : Int} {tgt : Nat} {β : Type} {r : β} {X Y : Option β} (hd : decode cc pc = .ok (.if_icmp .gt off, 3)) (ht : (pc : Int) + off = (tgt : Int)) (hq : pc + 3 = q) (hf : (if y < x then X else Y) = some r) (kt : y < x → X = some r → J C k n ws lv tgt st) (kf : ¬ y < x → Y = some r → J C k n ws lv q st) : J C k n ws lv pc (.int y :: .int x :: st) := by
  obtain ⟨p, l, e, R, s, m, args, below, meth, c, A, nL', D, Q⟩ := C
  obtain ⟨hx, hb, hml, hown, hts, hG, hA, rfl, rfl, rfl⟩ := hC
  subst hq
  exact fun H locs ls hP hD hS hl => lv_icmp_gt hx hb hd ht (fun c => kt c ((zite_s hf).1 c) H locs ls hP hD hS hl) (fun c => kf c ((zite_s hf).2 c) H locs ls hP hD hS hl)
theorem j_if_le (hC : zC C E cc own nL rm) {x : Int32} {off : Int} {tgt : Nat} {β : Type} {r : β} {X Y : Option β} (hd : decode cc pc = .ok (.ifCond .le off, 3)) (ht : (pc : Int) + off = (tgt : Int)) (hq : pc + 3 = q) (hf : (if x ≤ 0 then X else Y) = some r) (kt : x ≤ 0 → X = some r → J C k n ws lv tgt st) (kf : ¬ x ≤ 0 → Y = some r → J C k n ws lv q st) : J C k n ws lv pc (.int x :: st) := by
  obtain ⟨p, l, e, R, s, m, args, below, meth, c, A, nL', D, Q⟩ := C
  obtain ⟨hx, hb, hml, hown, hts, hG, hA, rfl, rfl, rfl⟩ := hC
  subst hq
  exact fun H locs ls hP hD hS hl => lv_if_le hx hb hd ht (fun c => kt c ((zite_s hf).1 c) H locs ls hP hD hS hl) (fun c => kf c ((zite_s hf).2 c) H locs ls hP hD hS hl)
theorem j_icmp_le (hC : zC C E cc own nL rm) {x y : Int32} {off : Int} {tgt : Nat} {β : Type} {r : β} {X Y : Option β} (hd : decode cc pc = .ok (.if_icmp .le off, 3)) (ht : (pc : Int) + off = (tgt : Int)) (hq : pc + 3 = q) (hf : (if x ≤ y then X else Y) = some r) (kt : x ≤ y → X = some r → J C k n ws lv tgt st) (kf : ¬ x ≤ y → Y = some r → J C k n ws lv q st) : J C k n ws lv pc (.int y :: .int x :: st) := by
  obtain ⟨p, l, e, R, s, m, args, below, meth, c, A, nL', D, Q⟩ := C
  obtain ⟨hx, hb, hml, hown, hts, hG, hA, rfl, rfl, rfl⟩ := hC
  subst hq
  exact fun H locs ls hP hD hS hl => lv_icmp_le hx hb hd ht (fun c => kt c ((zite_s hf).1 c) H locs ls hP hD hS hl) (fun c => kf c ((zite_s hf).2 c) H locs ls hP hD hS hl)
theorem j_if_ne (hC : zC C E cc own nL rm) {x : Int32} {off : Int} {tgt : Nat} {β : Type} {r : β} {X Y : Option β} (hd : decode cc pc = .ok (.ifCond .ne off, 3)) (ht : (pc : Int) + off = (tgt : Int)) (hq : pc + 3 = q) (hf : (if x = 0 then Y else X) = some r) (kt : ¬ x = 0 → X = some r → J C k n ws lv tgt st) (kf : x = 0 → Y = some r → J C k n ws lv q st) : J C k n ws lv pc (.int x :: st) := by
  obtain ⟨p, l, e, R, s, m, args, below, meth, c, A, nL', D, Q⟩ := C
  obtain ⟨hx, hb, hml, hown, hts, hG, hA, rfl, rfl, rfl⟩ := hC
  subst hq
  exact fun H locs ls hP hD hS hl => lv_if_ne hx hb hd ht (fun c => kt c ((zite_s hf).2 c) H locs ls hP hD hS hl) (fun c => kf c ((zite_s hf).1 c) H locs ls hP hD hS hl)
theorem j_icmp_ne (hC : zC C E cc own nL rm) {x y : Int32} {off : Int} {tgt : Nat} {β : Type} {r : β} {X Y : Option β} (hd : decode cc pc = .ok (.if_icmp .ne off, 3)) (ht : (pc : Int) + off = (tgt : Int)) (hq : pc + 3 = q) (hf : (if x = y then Y else X) = some r) (kt : ¬ x = y → X = some r → J C k n ws lv tgt st) (kf : x = y → Y = some r → J C k n ws lv q st) : J C k n ws lv pc (.int y :: .int x :: st) := by
  obtain ⟨p, l, e, R, s, m, args, below, meth, c, A, nL', D, Q⟩ := C
  obtain ⟨hx, hb, hml, hown, hts, hG, hA, rfl, rfl, rfl⟩ := hC
  subst hq
  exact fun H locs ls hP hD hS hl => lv_icmp_ne hx hb hd ht (fun c => kt c ((zite_s hf).2 c) H locs ls hP hD hS hl) (fun c => kf c ((zite_s hf).1 c) H locs ls hP hD hS hl)
theorem j_goto (hC : zC C E cc own nL rm) {off : Int} {tgt : Nat} (hd : decode cc pc = .ok (.goto off, 3)) (ht : (pc : Int) + off = (tgt : Int)) (kk : J C k n ws lv tgt st) : J C k n ws lv pc st := by
  obtain ⟨p, l, e, R, s, m, args, below, meth, c, A, nL', D, Q⟩ := C
  obtain ⟨hx, hb, hml, hown, hts, hG, hA, rfl, rfl, rfl⟩ := hC
  exact fun H locs ls hP hD hS hl => lv_goto hx hb hd ht (kk H locs ls hP hD hS hl)
theorem j_ifnull (hC : zC C E cc own nL rm) {off : Int} {x : Nat} (hd : decode cc pc = .ok (.ifnull off, 3)) (hq : pc + 3 = q) (kk : J C k n ws lv q st) : J C k n ws lv pc (.ref x :: st) := by
  obtain ⟨p, l, e, R, s, m, args, below, meth, c, A, nL', D, Q⟩ := C
  obtain ⟨hx, hb, hml, hown, hts, hG, hA, rfl, rfl, rfl⟩ := hC
  subst hq
  exact fun H locs ls hP hD hS hl => lv_ifnull hx hb hd (kk H locs ls hP hD hS hl)
theorem j_ifnonnull (hC : zC C E cc own nL rm) {off : Int} {tgt x : Nat} (hd : decode cc pc = .ok (.ifnonnull off, 3)) (ht : (pc : Int) + off = (tgt : Int)) (kk : J C k n ws lv tgt st) : J C k n ws lv pc (.ref x :: st) := by
  obtain ⟨p, l, e, R, s, m, args, below, meth, c, A, nL', D, Q⟩ := C
  obtain ⟨hx, hb, hml, hown, hts, hG, hA, rfl, rfl, rfl⟩ := hC
  exact fun H locs ls hP hD hS hl => lv_ifnonnull hx hb hd ht (kk H locs ls hP hD hS hl)
theorem j_ifnullN (hC : zC C E cc own nL rm) {off : Int} {tgt : Nat} (hd : decode cc pc = .ok (.ifnull off, 3)) (ht : (pc : Int) + off = (tgt : Int)) (kk : J C k n ws lv tgt st) : J C k n ws lv pc (.null :: st) := by
  obtain ⟨p, l, e, R, s, m, args, below, meth, c, A, nL', D, Q⟩ := C
  obtain ⟨hx, hb, hml, hown, hts, hG, hA, rfl, rfl, rfl⟩ := hC
  exact fun H locs ls hP hD hS hl => lv_ifnullN hx hb hd ht (kk H locs ls hP hD hS hl)
theorem j_ifnonnullN (hC : zC C E cc own nL rm) {off : Int} (hd : decode cc pc = .ok (.ifnonnull off, 3)) (hq : pc + 3 = q) (kk : J C k n ws lv q st) : J C k n ws lv pc (.null :: st) := by
  obtain ⟨p, l, e, R, s, m, args, below, meth, c, A, nL', D, Q⟩ := C
  obtain ⟨hx, hb, hml, hown, hts, hG, hA, rfl, rfl, rfl⟩ := hC
  subst hq
  exact fun H locs ls hP hD hS hl => lv_ifnonnullN hx hb hd (kk H locs ls hP hD hS hl)
theorem j_table (hC : zC C E cc own nL rm) {dflt lo hi : Int} {offs : Array Int} {len tgt : Nat} {x : Int32} {off : Int} (hd : decode cc pc = .ok (.tableswitch dflt lo hi offs, len)) (h1 : ¬ x.toInt < lo) (h2 : ¬ hi < x.toInt) (ho : offs[(x.toInt - lo).toNat]? = some off) (ht : (pc : Int) + off = (tgt : Int)) (kk : J C k n ws lv tgt st) : J C k n ws lv pc (.int x :: st) := by
  obtain ⟨p, l, e, R, s, m, args, below, meth, c, A, nL', D, Q⟩ := C
  obtain ⟨hx, hb, hml, hown, hts, hG, hA, rfl, rfl, rfl⟩ := hC
  exact fun H locs ls hP hD hS hl => lv_tableIn hx hb hd h1 h2 ho ht (kk H locs ls hP hD hS hl)
theorem j_tableOut (hC : zC C E cc own nL rm) {dflt lo hi : Int} {offs : Array Int} {len tgt : Nat} {x : Int32} (hd : decode cc pc = .ok (.tableswitch dflt lo hi offs, len)) (h : x.toInt < lo ∨ hi < x.toInt) (ht : (pc : Int) + dflt = (tgt : Int)) (kk : J C k n ws lv tgt st) : J C k n ws lv pc (.int x :: st) := by
  obtain ⟨p, l, e, R, s, m, args, below, meth, c, A, nL', D, Q⟩ := C
  obtain ⟨hx, hb, hml, hown, hts, hG, hA, rfl, rfl, rfl⟩ := hC
  exact fun H locs ls hP hD hS hl => lv_tableOut hx hb hd h ht (kk H locs ls hP hD hS hl)
theorem j_lookup (hC : zC C E cc own nL rm) {dflt : Int} {ps : Array (Int × Int)} {len tgt : Nat} {x : Int32} {off : Int} (hd : decode cc pc = .ok (.lookupswitch dflt ps, len)) (hp : (ps.toList.zip (ps.toList.drop 1)).all (fun (a, next) => a.1 < next.1) = true) (ho : Op.lookupswitch.offset ps.toList dflt x.toInt = off) (ht : (pc : Int) + off = (tgt : Int)) (kk : J C k n ws lv tgt st) : J C k n ws lv pc (.int x :: st) := by
  obtain ⟨p, l, e, R, s, m, args, below, meth, c, A, nL', D, Q⟩ := C
  obtain ⟨hx, hb, hml, hown, hts, hG, hA, rfl, rfl, rfl⟩ := hC
  exact fun H locs ls hP hD hS hl => lv_lookup hx hb hd hp ho ht (kk H locs ls hP hD hS hl)
theorem j_get (hC : zC C E cc own nL rm) {ci a N index : Nat} {Cn : String} {T : u_T} {ty : Nat → FieldType} {fs : List Value} (hcl : zCls ci Cn T N ty) (q0 : Nat) (i : Nat) {nm ds : String} {v : Value} (hw : Cond.fieldLink own index Cn nm ds ∈ zW) (hT : (T i).2.1 = nm ∧ (T i).2.2.1 = ds ∧ i < N) (he : ws[q0]? = some (a, .inr (ci, fs))) (hv : fs[i]? = some v) (hd : decode cc pc = .ok (.getfield index, 3)) (hq : pc + 3 = q) (kk : J C k n ws lv q (v :: st)) : J C k n ws lv pc (.ref a :: st) := by
  obtain ⟨p, l, e, R, s, m, args, below, meth, c, A, nL', D, Q⟩ := C
  obtain ⟨hx, hb, hml, hown, hts, hG, hA, rfl, rfl, rfl⟩ := hC
  subst hq
  obtain ⟨rfl, rfl, hi⟩ := hT
  exact fun H locs ls hP hD hS hl => va_get hx hb hts hcl.1 hown hG.1 hP q0 he hcl.2.1 i hi (hts _ hw) (fun x h => by rw [hcl.2.2.1 i hi] at h; exact h) hv hd (kk H locs ls hP hD hS hl)
theorem j_getN (hC : zC C E cc own nL rm) {ci a N index : Nat} {Cn : String} {T : u_T} {ty : Nat → FieldType} {fs : List Value} {host : String} (hcl : zCls ci Cn T N ty) (q0 : Nat) (i : Nat) {nm ds : String} {v : Value} (hw : Cond.fieldLinkNest own index Cn nm ds host ∈ zN) (hT : (T i).2.1 = nm ∧ (T i).2.2.1 = ds ∧ i < N) (he : ws[q0]? = some (a, .inr (ci, fs))) (hv : fs[i]? = some v) (hd : decode cc pc = .ok (.getfield index, 3)) (hq : pc + 3 = q) (kk : J C k n ws lv q (v :: st)) : J C k n ws lv pc (.ref a :: st) := by
  obtain ⟨p, l, e, R, s, m, args, below, meth, c, A, nL', D, Q⟩ := C
  obtain ⟨hx, hb, hml, hown, hts, hG, hA, rfl, rfl, rfl⟩ := hC
  subst hq
  obtain ⟨rfl, rfl, hi⟩ := hT
  exact fun H locs ls hP hD hS hl => va_getN hx hb hts hcl.1 hown hG.1 hP q0 he hcl.2.1 i hi ((hG.2.1 _ hw).use (zN_tab hw)) (fun x h => by rw [hcl.2.2.1 i hi] at h; exact h) hv hd (kk H locs ls hP hD hS hl)
theorem j_put (hC : zC C E cc own nL rm) {ci a N index : Nat} {Cn : String} {T : u_T} {ty : Nat → FieldType} {fs : List Value} {host : String} (hcl : zCls ci Cn T N ty) (q0 : Nat) (i : Nat) {nm ds : String} {v : Value} {ws' : va_W} (hw : Cond.fieldLink own index Cn nm ds ∈ zW) (hT : (T i).2.1 = nm ∧ (T i).2.2.1 = ds ∧ i < N ∧ (T i).2.2.2 = false) (hn : narrow (ty i) v = v) (hfit : fits (ty i) v = true) (he : ws[q0]? = some (a, .inr (ci, fs))) (hl : i < fs.length) (hset : ws.set q0 (a, .inr (ci, fs.set i v)) = ws') (hd : decode cc pc = .ok (.putfield index, 3)) (hq : pc + 3 = q) (kk : J C k n ws' lv q st) : J C k n ws lv pc (v :: .ref a :: st) := by
  obtain ⟨p, l, e, R, s, m, args, below, meth, c, A, nL', D, Q⟩ := C
  obtain ⟨hx, hb, hml, hown, hts, hG, hA, rfl, rfl, rfl⟩ := hC
  subst hq
  subst hset
  obtain ⟨rfl, rfl, hi, hfin⟩ := hT
  exact fun H locs ls hP hD hS h => va_put hx hb hts hcl.1 ty hcl.2.2.2.1 hcl.2.2.2.2 hown hG.1 hP hD hS q0 he hcl.2.1 i hi (hts _ hw) (fun x h => by rw [hcl.2.2.1 i hi] at h; exact h) hfin (hcl.2.2.2.1 i hi) hn hfit hl hd (fun H1 locs1 hP1 hD1 hS1 => kk H1 locs1 ls hP1 hD1 hS1 h)
theorem j_putN (hC : zC C E cc own nL rm) {ci a N index : Nat} {Cn : String} {T : u_T} {ty : Nat → FieldType} {fs : List Value} {host : String} (hcl : zCls ci Cn T N ty) (q0 : Nat) (i : Nat) {nm ds : String} {v : Value} {ws' : va_W} (hw : Cond.fieldLinkNest own index Cn nm ds host ∈ zN) (hT : (T i).2.1 = nm ∧ (T i).2.2.1 = ds ∧ i < N ∧ (T i).2.2.2 = false) (hn : narrow (ty i) v = v) (hfit : fits (ty i) v = true) (he : ws[q0]? = some (a, .inr (ci, fs))) (hl : i < fs.length) (hset : ws.set q0 (a, .inr (ci, fs.set i v)) = ws') (hd : decode cc pc = .ok (.putfield index, 3)) (hq : pc + 3 = q) (kk : J C k n ws' lv q st) : J C k n ws lv pc (v :: .ref a :: st) := by
  obtain ⟨p, l, e, R, s, m, args, below, meth, c, A, nL', D, Q⟩ := C
  obtain ⟨hx, hb, hml, hown, hts, hG, hA, rfl, rfl, rfl⟩ := hC
  subst hq
  subst hset
  obtain ⟨rfl, rfl, hi, hfin⟩ := hT
  exact fun H locs ls hP hD hS h => va_putN hx hb hts hcl.1 ty hcl.2.2.2.1 hcl.2.2.2.2 hown hG.1 hP hD hS q0 he hcl.2.1 i hi ((hG.2.1 _ hw).use (zN_tab hw)) (fun x h => by rw [hcl.2.2.1 i hi] at h; exact h) hfin (hcl.2.2.2.1 i hi) hn hfit hl hd (fun H1 locs1 hP1 hD1 hS1 => kk H1 locs1 ls hP1 hD1 hS1 h)
theorem j_iald (hC : zC C E cc own nL rm) {a z : Nat} {f : Nat → Int32} {i : Int32} {β : Type} {r : β} {K : Int32 → Option β} (q0 : Nat) (ha : ws[q0]? = some (a, .inl (E.2.1 0, z, .inl f))) (hd : decode cc pc = .ok (.iaload, 1)) (hq : pc + 1 = q) (hf : zald f z i K = some r) (kk : ∀ x, K x = some r → J C k n ws lv q (.int x :: st)) : J C k n ws lv pc (.int i :: .ref a :: st) := by
  obtain ⟨p, l, e, R, s, m, args, below, meth, c, A, nL', D, Q⟩ := C
  obtain ⟨hx, hb, hml, hown, hts, hG, hA, rfl, rfl, rfl⟩ := hC
  subst hq
  have h := zald_s hf
  exact fun H locs ls hP hD hS hl => va_iald hx hb hG.1 hP q0 0 ha rfl h.1 hd (kk _ h.2 H locs ls hP hD hS hl)
theorem j_bald (hC : zC C E cc own nL rm) {a z : Nat} {f : Nat → Int32} {i : Int32} {β : Type} {r : β} {K : Int32 → Option β} (q0 : Nat) (ha : ws[q0]? = some (a, .inl (E.2.1 1, z, .inl f))) (hd : decode cc pc = .ok (.baload, 1)) (hq : pc + 1 = q) (hf : zald f z i K = some r) (kk : ∀ x, K x = some r → J C k n ws lv q (.int x :: st)) : J C k n ws lv pc (.int i :: .ref a :: st) := by
  obtain ⟨p, l, e, R, s, m, args, below, meth, c, A, nL', D, Q⟩ := C
  obtain ⟨hx, hb, hml, hown, hts, hG, hA, rfl, rfl, rfl⟩ := hC
  subst hq
  have h := zald_s hf
  exact fun H locs ls hP hD hS hl => va_bald hx hb hG.1 hP q0 1 ha rfl h.1 hd (kk _ h.2 H locs ls hP hD hS hl)
theorem j_zald (hC : zC C E cc own nL rm) {a z : Nat} {f : Nat → Int32} {i : Int32} {β : Type} {r : β} {K : Int32 → Option β} (q0 : Nat) (ha : ws[q0]? = some (a, .inl (E.2.1 2, z, .inl f))) (hd : decode cc pc = .ok (.baload, 1)) (hq : pc + 1 = q) (hf : zald f z i K = some r) (kk : ∀ x, K x = some r → J C k n ws lv q (.int x :: st)) : J C k n ws lv pc (.int i :: .ref a :: st) := by
  obtain ⟨p, l, e, R, s, m, args, below, meth, c, A, nL', D, Q⟩ := C
  obtain ⟨hx, hb, hml, hown, hts, hG, hA, rfl, rfl, rfl⟩ := hC
  subst hq
  have h := zald_s hf
  exact fun H locs ls hP hD hS hl => va_zald hx hb hG.1 hP q0 2 ha rfl h.1 hd (kk _ h.2 H locs ls hP hD hS hl)
theorem j_iast (hC : zC C E cc own nL rm) {a z : Nat} {f : Nat → Int32} {i v : Int32} {β : Type} {r : β} {K : (Nat → Int32) → Option β} (ws' : (Nat → Int32) → va_W) (q0 : Nat) (ha : ws[q0]? = some (a, .inl (E.2.1 0, z, .inl f))) (hset : ∀ g, ws.set q0 (a, .inl (E.2.1 0, z, .inl g)) = ws' g) (hd : decode cc pc = .ok (.iastore, 1)) (hq : pc + 1 = q) (hf : zast f z i v K = some r) (kk : ∀ g, K g = some r → J C k n (ws' g) lv q st) : J C k n ws lv pc (.int v :: .int i :: .ref a :: st) := by
  obtain ⟨p, l, e, R, s, m, args, below, meth, c, A, nL', D, Q⟩ := C
  obtain ⟨hx, hb, hml, hown, hts, hG, hA, rfl, rfl, rfl⟩ := hC
  subst hq
  have h := zast_s hf
  exact fun H locs ls hP hD hS hl => va_iast hx hb hG.1 hP hD hS q0 0 ha rfl h.1 hd (fun H1 locs1 hP1 hD1 hS1 => kk _ h.2 H1 locs1 ls (hset _ ▸ hP1) (hset _ ▸ hD1) hS1 hl)
theorem j_bast (hC : zC C E cc own nL rm) {a z : Nat} {f : Nat → Int32} {i v : Int32} {β : Type} {r : β} {K : (Nat → Int32) → Option β} (ws' : (Nat → Int32) → va_W) (q0 : Nat) (ha : ws[q0]? = some (a, .inl (E.2.1 1, z, .inl f))) (hset : ∀ g, ws.set q0 (a, .inl (E.2.1 1, z, .inl g)) = ws' g) (hd : decode cc pc = .ok (.bastore, 1)) (hq : pc + 1 = q) (hf : zast f z i (vp_nar .byte v) K = some r) (kk : ∀ g, K g = some r → J C k n (ws' g) lv q st) : J C k n ws lv pc (.int v :: .int i :: .ref a :: st) := by
  obtain ⟨p, l, e, R, s, m, args, below, meth, c, A, nL', D, Q⟩ := C
  obtain ⟨hx, hb, hml, hown, hts, hG, hA, rfl, rfl, rfl⟩ := hC
  subst hq
  have h := zast_s hf
  exact fun H locs ls hP hD hS hl => va_bast hx hb hG.1 hP hD hS q0 1 ha rfl h.1 hd (fun H1 locs1 hP1 hD1 hS1 => kk _ h.2 H1 locs1 ls (hset _ ▸ hP1) (hset _ ▸ hD1) hS1 hl)
theorem j_zast (hC : zC C E cc own nL rm) {a z : Nat} {f : Nat → Int32} {i v : Int32} {β : Type} {r : β} {K : (Nat → Int32) → Option β} (ws' : (Nat → Int32) → va_W) (q0 : Nat) (ha : ws[q0]? = some (a, .inl (E.2.1 2, z, .inl f))) (hset : ∀ g, ws.set q0 (a, .inl (E.2.1 2, z, .inl g)) = ws' g) (hd : decode cc pc = .ok (.bastore, 1)) (hq : pc + 1 = q) (hf : zast f z i (vp_nar .boolean v) K = some r) (kk : ∀ g, K g = some r → J C k n (ws' g) lv q st) : J C k n ws lv pc (.int v :: .int i :: .ref a :: st) := by
  obtain ⟨p, l, e, R, s, m, args, below, meth, c, A, nL', D, Q⟩ := C
  obtain ⟨hx, hb, hml, hown, hts, hG, hA, rfl, rfl, rfl⟩ := hC
  subst hq
  have h := zast_s hf
  exact fun H locs ls hP hD hS hl => va_zast hx hb hG.1 hP hD hS q0 2 ha rfl h.1 hd (fun H1 locs1 hP1 hD1 hS1 => kk _ h.2 H1 locs1 ls (hset _ ▸ hP1) (hset _ ▸ hD1) hS1 hl)
theorem j_last (hC : zC C E cc own nL rm) {a z : Nat} {f : Nat → Int64} {i : Int32} {v : Int64} {β : Type} {r : β} {K : (Nat → Int64) → Option β} (ws' : (Nat → Int64) → va_W) (q0 : Nat) (ha : ws[q0]? = some (a, .inl (E.2.1 3, z, .inr (.inl f)))) (hset : ∀ g, ws.set q0 (a, .inl (E.2.1 3, z, .inr (.inl g))) = ws' g) (hd : decode cc pc = .ok (.lastore, 1)) (hq : pc + 1 = q) (hf : zlast f z i v K = some r) (kk : ∀ g, K g = some r → J C k n (ws' g) lv q st) : J C k n ws lv pc (.long v :: .int i :: .ref a :: st) := by
  obtain ⟨p, l, e, R, s, m, args, below, meth, c, A, nL', D, Q⟩ := C
  obtain ⟨hx, hb, hml, hown, hts, hG, hA, rfl, rfl, rfl⟩ := hC
  subst hq
  have h := zlast_s hf
  exact fun H locs ls hP hD hS hl => va_last hx hb hG.1 hP hD hS q0 3 ha rfl h.1 hd (fun H1 locs1 hP1 hD1 hS1 => kk _ h.2 H1 locs1 ls (hset _ ▸ hP1) (hset _ ▸ hD1) hS1 hl)
theorem j_lald (hC : zC C E cc own nL rm) {a z : Nat} {f : Nat → Int64} {i : Int32} {β : Type} {r : β} {K : Int64 → Option β} (q0 : Nat) (ha : ws[q0]? = some (a, .inl (E.2.1 3, z, .inr (.inl f)))) (hd : decode cc pc = .ok (.laload, 1)) (hq : pc + 1 = q) (hf : zald f z i K = some r) (kk : ∀ x, K x = some r → J C k n ws lv q (.long x :: st)) : J C k n ws lv pc (.int i :: .ref a :: st) := by
  obtain ⟨p, l, e, R, s, m, args, below, meth, c, A, nL', D, Q⟩ := C
  obtain ⟨hx, hb, hml, hown, hts, hG, hA, rfl, rfl, rfl⟩ := hC
  subst hq
  have h := zald_s hf
  exact fun H locs ls hP hD hS hl => va_lald hx hb hG.1 hP q0 3 ha rfl h.1 hd (kk _ h.2 H locs ls hP hD hS hl)
theorem j_alen (hC : zC C E cc own nL rm) {a : Nat} {x : vp_A} {cA : ClassId} {v : Int32} (q0 t0 : Nat) {ty : FieldType} (ha : ws[q0]? = some (a, .inl (cA, x))) (ht : (zTy E)[t0]? = some (cA, ty)) (hv : Int32.ofNat x.1 = v) (hd : decode cc pc = .ok (.arraylength, 1)) (hq : pc + 1 = q) (kk : J C k n ws lv q (.int v :: st)) : J C k n ws lv pc (.ref a :: st) := by
  obtain ⟨p, l, e, R, s, m, args, below, meth, c, A, nL', D, Q⟩ := C
  obtain ⟨hx, hb, hml, hown, hts, hG, hA, rfl, rfl, rfl⟩ := hC
  subst hq
  exact fun H locs ls hP hD hS hl => va_alen hx hb hG.1 hP q0 t0 ha ht hv hd (kk H locs ls hP hD hS hl)
theorem j_gets (hC : zC C E cc own nL rm) {index : Nat} (i : Nat) (hi : i < 4) (hw : Cond.fieldLink own index "PackedCache" (zSn i) "[I" ∈ zW) (hd : decode cc pc = .ok (.getstatic index, 3)) (hq : pc + 3 = q) (kk : J C k n ws lv q (.ref (E.2.2.1 i) :: st)) : J C k n ws lv pc st := by
  obtain ⟨p, l, e, R, s, m, args, below, meth, c, A, nL', D, Q⟩ := C
  obtain ⟨hx, hb, hml, hown, hts, hG, hA, rfl, rfl, rfl⟩ := hC
  subst hq
  exact fun H locs ls hP hD hS hl => va_gets hx hb (hG.2.2.1 i hi).1 hS hown (hts _ hw) (fun _ h => h) hd (kk H locs ls hP hD hS hl)
theorem j_getsN (hC : zC C E cc own nL rm) {index : Nat} {host : String} (i : Nat) (hi : i < 4) (hw : Cond.fieldLinkNest own index "PackedCache" (zSn i) "[I" host ∈ zN) (hd : decode cc pc = .ok (.getstatic index, 3)) (hq : pc + 3 = q) (kk : J C k n ws lv q (.ref (E.2.2.1 i) :: st)) : J C k n ws lv pc st := by
  obtain ⟨p, l, e, R, s, m, args, below, meth, c, A, nL', D, Q⟩ := C
  obtain ⟨hx, hb, hml, hown, hts, hG, hA, rfl, rfl, rfl⟩ := hC
  subst hq
  exact fun H locs ls hP hD hS hl => va_getsN hx hb (hG.2.2.1 i hi).1 hS hown ((hG.2.1 _ hw).use (zN_tab hw)) (fun _ h => h) hd (kk H locs ls hP hD hS hl)
theorem j_tld (hC : zC C E cc own nL rm) {i : Int32} {β : Type} {r : β} {K : Int32 → Option β} (j : Nat) (hj : j < 4) (hd : decode cc pc = .ok (.iaload, 1)) (hq : pc + 1 = q) (hf : zald (zSv j) 8 i K = some r) (kk : ∀ x, K x = some r → J C k n ws lv q (.int x :: st)) : J C k n ws lv pc (.int i :: .ref (E.2.2.1 j) :: st) := by
  obtain ⟨p, l, e, R, s, m, args, below, meth, c, A, nL', D, Q⟩ := C
  obtain ⟨hx, hb, hml, hown, hts, hG, hA, rfl, rfl, rfl⟩ := hC
  subst hq
  have h := zald_s hf
  exact fun H locs ls hP hD hS hl => va_ti hx hb (hG.2.2.1 j hj).2 hS h.1 rfl hd (kk _ h.2 H locs ls hP hD hS hl)
theorem j_iret (hC : zC C E cc own nL rm) {x : Int32} {V : Option Value} {Wd : va_W} (hR : zR C (some .int) k n V Wd) (hd : decode cc pc = .ok (.ireturn, 1)) (hV : some (.int x) = V) (hW : ws = Wd) : J C k n ws lv pc [.int x] := by
  obtain ⟨p, l, e, R, s, m, args, below, meth, c, A, nL', D, Q⟩ := C
  obtain ⟨hx, hb, hml, hown, hts, hG, hA, rfl, rfl, rfl⟩ := hC
  obtain ⟨hlk, hrt, rfl⟩ := hR
  subst hV
  subst hW
  exact fun H locs ls hP hD hS hl => W.iret hx hb hrt (fun t ht _ => ⟨rfl, by rw [ht]; exact hP, hS.F ht⟩) (fun q hq => hS.2.2 q hq) hd hlk
theorem j_zret (hC : zC C E cc own nL rm) {x : Int32} {ty : FieldType} {V : Option Value} {Wd : va_W} (hR : zR C (some ty) k n V Wd) (hn : narrow ty (.int x) = .int x) (hd : decode cc pc = .ok (.ireturn, 1)) (hV : some (.int x) = V) (hW : ws = Wd) : J C k n ws lv pc [.int x] := by
  obtain ⟨p, l, e, R, s, m, args, below, meth, c, A, nL', D, Q⟩ := C
  obtain ⟨hx, hb, hml, hown, hts, hG, hA, rfl, rfl, rfl⟩ := hC
  obtain ⟨hlk, hrt, rfl⟩ := hR
  subst hV
  subst hW
  exact fun H locs ls hP hD hS hl => W.zret hx hb hrt hn (fun t ht _ => ⟨rfl, by rw [ht]; exact hP, hS.F ht⟩) (fun q hq => hS.2.2 q hq) hd hlk
theorem j_lret (hC : zC C E cc own nL rm) {x : Int64} {V : Option Value} {Wd : va_W} (hR : zR C (some .long) k n V Wd) (hd : decode cc pc = .ok (.lreturn, 1)) (hV : some (.long x) = V) (hW : ws = Wd) : J C k n ws lv pc [.long x] := by
  obtain ⟨p, l, e, R, s, m, args, below, meth, c, A, nL', D, Q⟩ := C
  obtain ⟨hx, hb, hml, hown, hts, hG, hA, rfl, rfl, rfl⟩ := hC
  obtain ⟨hlk, hrt, rfl⟩ := hR
  subst hV
  subst hW
  exact fun H locs ls hP hD hS hl => W.lret hx hb hrt (fun t ht _ => ⟨rfl, by rw [ht]; exact hP, hS.F ht⟩) (fun q hq => hS.2.2 q hq) hd hlk
theorem j_vret (hC : zC C E cc own nL rm) {V : Option Value} {Wd : va_W} (hR : zR C none k n V Wd) (hd : decode cc pc = .ok (.return_, 1)) (hV : none = V) (hW : ws = Wd) : J C k n ws lv pc [] := by
  obtain ⟨p, l, e, R, s, m, args, below, meth, c, A, nL', D, Q⟩ := C
  obtain ⟨hx, hb, hml, hown, hts, hG, hA, rfl, rfl, rfl⟩ := hC
  obtain ⟨hlk, hrt, rfl⟩ := hR
  subst hV
  subst hW
  exact fun H locs ls hP hD hS hl => W.vret hx hb hrt (fun t ht _ => ⟨rfl, by rw [ht]; exact hP, hS.F ht⟩) (fun q hq => hS.2.2 q hq) hd hlk
end ZR
