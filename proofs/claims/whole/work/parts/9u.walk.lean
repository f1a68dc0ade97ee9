/-! ===== the law from its entry ===== -/
def stq (x : Nat) (a : Nat → Nat) : Nat → Nat
  | 0 => x
  | j + 1 => a j
def stS : Nat → Int32 := zu (zu (zu (zu (zu (zu (fun _ => 0) 29 1) 30 1) 37 1) 38 1) 46 1) 47 1
def stM : Nat → Int32 := zu (fun _ => 0) 2 (-1)
theorem sw_21 : Cond.classLink RL 8 "PackedCache" ∈ zW := zT 21 (by decide +kernel) (by decide +kernel)
theorem sw_23 : Cond.methodLink RL 15 yX5_init ∈ zW := zT 23 (by decide +kernel) (by decide +kernel)
theorem sw_24 : Cond.instanceMethod yX5_init ∈ zW := zT 24 (by decide +kernel) (by decide +kernel)
theorem sw_25 : Cond.code yX5_init cX5_init 1 none ∈ zW := zT 25 (by decide +kernel) (by decide +kernel)
theorem sw_895 : Cond.classLink RL 16 "PackedCacheModel" ∈ zW := zT 891 (by decide +kernel) (by decide +kernel)
theorem sw_897 : Cond.methodLink RL 18 yX7_init ∈ zW := zT 893 (by decide +kernel) (by decide +kernel)
theorem sw_898 : Cond.instanceMethod yX7_init ∈ zW := zT 894 (by decide +kernel) (by decide +kernel)
theorem sw_899 : Cond.code yX7_init cX7_init 1 none ∈ zW := zT 895 (by decide +kernel) (by decide +kernel)
theorem sy_X5 : zYi yX5_init cX5_init 1 0 := ⟨sw_25, sw_24, zw_1, rfl, by decide, by decide, by decide +kernel⟩
theorem sy_X7 : zYi yX7_init cX7_init 1 0 := ⟨sw_899, sw_898, zw_6, rfl, by decide, by decide, by decide +kernel⟩
theorem st_GN : zGN stS (fun _ _ => 0) (fun _ => none) stM (fun _ _ => 0) (fun _ _ => 0) := by
  refine ⟨rfl, ⟨Nat.zero_le _, fun j _ => by rw [if_neg (Nat.not_lt_zero j)]⟩, ⟨0, ⟨Nat.zero_le _, rfl, fun j hj => absurd hj (Nat.not_lt_zero j)⟩, rfl, rfl, rfl, fun h => absurd h (by decide), fun _ => rfl, rfl⟩, rfl, rfl, ⟨rfl, rfl, rfl, rfl, rfl, rfl, rfl⟩, fun j _ => rfl⟩
set_option maxHeartbeats 4000000 in
set_option maxRecDepth 100000 in
theorem law_start {C : zX} {E : zE} {b : Nat} (hC : zC C E cL_law RL 7 room_1) (kk : ∀ (q mq : Nat → Nat) (o : Nat), J C 58 18049 (WX E q stS (fun _ _ => 0) (fun _ => none) .null .null ++ (IM E (fun _ _ => 0) (fun _ _ => 0) (fun _ _ _ => 0) 0 ++ (WN E mq stM (fun _ _ => 0) 0 .null ++ zO E o (fun _ => 0)))) [(0, .ref b), (1, .ref (q 0)), (2, .ref (mq 0)), (3, .ref o), (4, .int (nI (6 * 0)))] 23 []) : J C 0 0 [] [(0, .ref b)] 0 [] := by
  refine j_new (q := 3) (k' := 1) (n' := 12) hC [.null, .int 0, .null, .null, .int 0, .null, .null, .null, .null, .null, .int 0, .int 0] zcl_X5 sw_21 st_i4 zw_1 (by decide) ⟨rfl, by decide⟩ ⟨rfl, by decide⟩ dL_law_0 rfl (fun x => ?_)
  refine j_dup (q := 4) hC dL_law_3 rfl rfl ?_
  refine j_callI (q := 7) (k' := 47) (n' := 3953) (wr := []) hC [.ref x] _ [0] [] (kX5_init E x) sy_X5 (Or.inl sw_23) (by unfold zRmA; decide) rfl rfl rfl rfl rfl rfl (by decide) (Nat.le_of_ble_eq_true rfl) dL_law_4 rfl (fun a => ?_)
  refine j_eqw (ws' := WX E (stq x a) stS (fun _ _ => 0) (fun _ => none) .null .null) rfl ?_
  refine j_astore_n (q := 8) (lv' := [(1, .ref x), (0, .ref b)]) hC dL_law_7 rfl rfl (by decide) rfl ?_
  refine j_new (q := 11) (k' := 48) (n' := 3991) hC [.int 0, .int 0, .int 0, .null, .null, .null, .int 0, .int 0, .int 0, .int 0, .int 0, .int 0, .int 0, .int 0, .long 0, .null, .null, .null, .null, .int 0, .int 0, .int 0, .int 0, .int 0, .null, .int 0, .int 0, .int 0, .null, .null, .int 0, .int 0, .int 0, .int 0, .int 0, .null, .int 0, .int 0] zcl_X7 sw_895 st_i6 zw_6 (by decide) ⟨rfl, by decide⟩ ⟨rfl, by decide⟩ dL_law_8 rfl (fun y => ?_)
  refine j_dup (q := 12) hC dL_law_11 rfl rfl ?_
  refine j_callI (q := 15) (k' := 57) (n' := 18048) (wr := WX E (stq x a) stS (fun _ _ => 0) (fun _ => none) .null .null) hC [.ref y] _ [47] [0, 1, 2, 3, 4, 5, 6, 7, 8, 9, 10, 11, 12, 13, 14, 15, 16, 17, 18, 19, 20, 21, 22, 23, 24, 25, 26, 27, 28, 29, 30, 31, 32, 33, 34, 35, 36, 37, 38, 39, 40, 41, 42, 43, 44, 45, 46] (kX7_init E y) sy_X7 (Or.inl sw_897) (by unfold zRmA; decide) rfl rfl rfl rfl rfl rfl (by decide) (Nat.le_of_ble_eq_true rfl) dL_law_12 rfl (fun a2 => ?_)
  refine j_eqw (ws' := WX E (stq x a) stS (fun _ _ => 0) (fun _ => none) .null .null ++ WN E (stq y a2) stM (fun _ _ => 0) 0 .null) rfl ?_
  refine j_astore_n (q := 16) (lv' := [(2, .ref y), (1, .ref x), (0, .ref b)]) hC dL_law_15 rfl rfl (by decide) rfl ?_
  refine j_iconst (q := 17) (v := 1) hC dL_law_16 rfl (by decide) ?_
  refine j_newa (q := 19) (N' := 1) (k' := 58) (n' := 18049) (a0 := (1, .inr (.inl (fun _ => 0)))) hC 3 rfl (fun _ h => nomatch h) rfl zw_arr3 (fun _ => rfl) ⟨by decide, by decide⟩ (by decide) ⟨rfl, by decide⟩ ⟨rfl, by decide⟩ dL_law_17 rfl (fun o => ?_)
  refine j_astore_n (q := 20) (lv' := [(3, .ref o), (2, .ref y), (1, .ref x), (0, .ref b)]) hC dL_law_19 rfl rfl (by decide) rfl ?_
  refine j_iconst (q := 21) (v := 0) hC dL_law_20 rfl (by decide) ?_
  refine j_istore (q := 23) (lv' := [(4, .int 0), (3, .ref o), (2, .ref y), (1, .ref x), (0, .ref b)]) hC dL_law_21 rfl (by decide) rfl ?_
  refine j_sub (lv' := [(0, .ref b), (1, .ref x), (2, .ref y), (3, .ref o), (4, .int 0)]) [4, 3, 2, 1, 0] rfl ?_
  rw [List.append_assoc]
  exact kk (stq x a) (stq y a2) o
/-! THE CLAIM OUT OF ONE WALK OF THE LAW'S BODY. Your part is whole_start (and what it stands on); all else here is the same for every law, but numbers. -/
def R_law : String := "PackedCacheLaw"
def lw_P (b : Addr) (xs : List Int32) (args : Array Value) (s : State) : Prop := args = #[.ref b] ∧ s.IntsAt b xs ∧ xs.length ≤ 3072 ∧ (Jvm.Cond.and given_1 narrow_1).before args s = true
def lw_Q (_ : Array Value) (s : State) (o : Outcome) (t : State) : Prop := o = .returned (some (.int 1)) ∧ Framed s o t [] 601024 7293034
def lw_Z (below : List Frame) (a : Array Value) (s : State) : State → Prop := fun t => ∃ o, t.status = .running ∧ Ended t below o ∧ lw_Q a s o t
/-- the law's own end, with 1 on the stack, nothing written that was there before, its room as the claim has it -/
theorem lw_ret {p : Program} {l : Launch} {e : Env} {s : State} {m : MethodId} {below : List Frame} {meth : Method} {c : Code} {b : Nat} (hx : p.tables.exec = Jvm.exec) (hb : c.code = code) (hr : meth.sig.returnType = ret) (hlocks : meth.locks = false) {pc : Nat} {H : Heap} {ls : Array Slot} (hdg : decode code pc = .ok (.ireturn, 1)) : W p l e room_1 s m #[Value.ref b] below meth c H [] 601024 7293034 (lw_Z below #[Value.ref b] s) (F0 m pc ls [.int 1]) := by
  intro T hT X
  obtain ⟨fs, hret, hrun, hended, hW, hframe⟩ := X.leave (v := some (.int 1)) (hlocks := hlocks) (fun h => by rw [hr] at h; cases h)
  have hmeth' : T.vm.method? m = some meth := X.method'
  refine ⟨T.setFrames fs, ?_, .returned (some (.int 1)), hrun, hended, rfl, ⟨_, rfl⟩, hW, hframe⟩
  jvm_step X.here [X.here.top, hx, hb, hdg, hmeth', hr, ret, narrow_b1]
  (try refine ⟨rfl, ?_⟩); (try refine ⟨rfl, ?_⟩)
  first | (intro acts; rw [hret _ acts rfl rfl rfl]) | rw [hret _ _ rfl rfl rfl]
  exact Steps.refl _
/-- what holds at the law's entry: the machine, the code, the tables' words (any of lw_tbl by 'hts w (by decide +kernel)'), the script of L ints xs at the cell b, what the Statement gives of the start (any of its parts by flat_of_before) -/
def lw_At (p : Program) (s : State) (m : MethodId) (meth : Method) (c : Code) (b L : Nat) (xs : Nat → Int32) : Prop :=
  p.tables.exec = Jvm.exec ∧ c.code = code ∧ meth.sig.returnType = ret ∧ c.maxLocals = 7 ∧ s.vm.findClass R_law = some m.cls ∧ (∀ w ∈ lw_tbl, w.before #[Value.ref b] s = true) ∧ va_X b L xs s s.heap ∧ b < s.heap.size ∧ meth.locks = false ∧ (Jvm.Cond.and given_1 narrow_1).before #[Value.ref b] s = true
theorem whole_start {p : Program} {e : Env} {s : State} {m : MethodId} {below : List Frame} {meth : Method} {c : Code} (l : Launch) (hlt : l.stackTraces = false) {b L : Nat} {xs : Nat → Int32} (hL : L ≤ 3072) (C0 : lw_At p s m meth c b L xs) : W p l e room_1 s m #[Value.ref b] below meth c s.heap [] 0 0 (lw_Z below #[Value.ref b] s) (entryFrame m ([Value.ref b] : List Value).toArray 7) := by
  obtain ⟨hx, hb, hr, hml, hown, hts, hX, hbl, hlocks, hgv⟩ := C0
  have hs : ∀ w ∈ st_fl, w.before #[Value.ref b] s = true := flat_of_before _ hgv
  have hA : ∀ a : Nat, a < s.heap.size → ¬ (fun q : Nat => s.heap.size ≤ q) a := fun a h => Nat.not_le.mpr h
  obtain ⟨E, hG⟩ := st_zG (A := fun q : Nat => s.heap.size ≤ q) hts hs hA
  have hT := st_zTh (A := fun q : Nat => s.heap.size ≤ q) hts hs hA
  have hC : zC (p, l, e, room_1, s, m, #[Value.ref b], below, meth, c, (fun q : Nat => s.heap.size ≤ q), 7, E.1, lw_Z below #[Value.ref b] s) E cL_law RL 7 room_1 := ⟨hx, hb, hml, hown, fun w hw => hts w (List.mem_filter.mp hw).1, hG, fun q h => h, rfl, rfl, rfl⟩
  have hend : ∀ (k n : Nat) (ws : va_W) (lv : List (Nat × Value)), k ≤ 601024 → n ≤ 7293034 → J (p, l, e, room_1, s, m, #[Value.ref b], below, meth, c, (fun q : Nat => s.heap.size ≤ q), 7, E.1, lw_Z below #[Value.ref b] s) k n ws lv 1598 [] := by
    intro k n ws lv hk hn
    refine j_iconst (q := 1599) (v := 1) hC dL_law_1598 rfl (by decide) ?_
    intro H locs ls hP hD hS hl
    refine va_forget (fun q hq => hS.2.2 q hq) ?_
    exact W.widen hk hn (lw_ret hx hb hr hlocks dL_law_1599)
  have hJ : J (p, l, e, room_1, s, m, #[Value.ref b], below, meth, c, (fun q : Nat => s.heap.size ≤ q), 7, E.1, lw_Z below #[Value.ref b] s) 0 0 [] [(0, .ref b)] 0 [] := by
    refine law_start hC (fun q mq o => ?_)
    exact (law_loop (o := o) hC ⟨hT, hlt⟩ ⟨hX, hbl, Nat.not_le.mpr hbl⟩ hL hend 513 0 58 18049 (by omega) (by omega) (by omega) (by omega)).2 q stS (fun _ _ => 0) (fun _ => none) .null .null mq stM (fun _ _ => 0) 0 .null 0 (fun _ _ => 0) (fun _ _ => 0) (fun _ _ _ => 0) (fun _ => 0) rfl st_GN
  have hl := lv_entry ([.ref b]) (n := 7) (Nat.le_of_ble_eq_true rfl)
  rw [lg_entry_eq]
  exact hJ s.heap [] _ (fun k q h => by simp at h) ⟨fun i j p q h => by simp at h, fun k q h => by simp at h⟩ va_S.rf hl
