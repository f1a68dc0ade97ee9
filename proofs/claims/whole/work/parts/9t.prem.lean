/-! ===== what the Statement gives at the start ===== -/
def st_fl : List Cond := flatC (Jvm.Cond.and given_1 narrow_1)
theorem st_in {L M : List Cond} {p n : Nat} (h : (L.drop p).take n = M) {w : Cond} (hw : w ∈ M) : w ∈ L := List.mem_of_mem_drop (List.mem_of_mem_take (h ▸ hw))
abbrev st_fv (own : String) (k : Nat) : Term := .field (.string own k) "java/lang/String" "value" "[B"
abbrev st_ws (own : String) (k : Nat) (byt : List Int32) : List Cond := [.exactly (.string own k) "java/lang/String", .eq (.field (.string own k) "java/lang/String" "coder" "B") (.int 0), .arrayOf (st_fv own k) .byte, .eq (.length (st_fv own k)) (.int (Int32.ofNat byt.length))] ++ (List.range byt.length).map (fun j => Cond.eq (.elem (st_fv own k) (.int (Int32.ofNat j))) (.int (byt.getD j 0)))
abbrev st_wa (n : String) (f : Nat → Int32) : List Cond := [.arrayOf (.static "PackedCache" n "[I") .int, .eq (.length (.static "PackedCache" n "[I")) (.int (Int32.ofNat 8))] ++ (List.range 8).map (fun j => Cond.eq (.elem (.static "PackedCache" n "[I") (.int (Int32.ofNat j))) (.int (f j)))
section STP
variable {args : Array Value} {s : State} {A : Nat → Prop}
theorem st_str {own : String} {k : Nat} {byt : List Int32} {p : Nat} (hs : ∀ w ∈ st_fl, w.before args s = true) (h : (st_fl.drop p).take (byt.length + 4) = st_ws own k byt) (hlen : byt.length < 2 ^ 31) (hA : ∀ a : Nat, a < s.heap.size → ¬ A a) : ∃ q : Nat × Nat, (Term.string own k).eval args s none [] s = some (.ref q.1) ∧ va_O "java/lang/String" q.1 A s s.heap ∧ va_OF "java/lang/String" "coder" "B" (.int 0) q.1 A s s.heap ∧ va_OF "java/lang/String" "value" "[B" (.ref q.2) q.1 A s s.heap ∧ va_T .byte q.2 byt.length (fun j => .int (byt.getD j 0)) A s s.heap := by
  have hm : ∀ w ∈ st_ws own k byt, w.before args s = true := fun w hw => hs w (st_in h hw)
  have hex := hm (.exactly (.string own k) "java/lang/String") (List.mem_append_left _ List.mem_cons_self)
  have hco := hm (.eq (.field (.string own k) "java/lang/String" "coder" "B") (.int 0)) (List.mem_append_left _ (List.mem_cons_of_mem _ List.mem_cons_self))
  have har := hm (.arrayOf (st_fv own k) .byte) (List.mem_append_left _ (List.mem_cons_of_mem _ (List.mem_cons_of_mem _ List.mem_cons_self)))
  have hle := hm (.eq (.length (st_fv own k)) (.int (Int32.ofNat byt.length))) (List.mem_append_left _ (List.mem_cons_of_mem _ (List.mem_cons_of_mem _ (List.mem_cons_of_mem _ List.mem_cons_self))))
  have hel : ∀ j : Nat, j < byt.length → (Cond.eq (.elem (st_fv own k) (.int (Int32.ofNat j))) (.int (byt.getD j 0))).before args s = true := fun j hj => hm _ (List.mem_append_right _ (List.mem_map.mpr ⟨j, List.mem_range.mpr hj, rfl⟩))
  obtain ⟨a, c, cA, kA, q1, q2, q3, q4, q5, q6, -⟩ := Cond.exactly_spec (args := args) (first := s) (o := none) (s := s) (idx := []) (t := .string own k) (cls := "java/lang/String") hex
  obtain ⟨t, ht, hT⟩ := va_Tof (f := fun j => .int (byt.getD j 0)) (A := A) hlen har (va_eqt hle) (fun j hj => va_eqt (hel j hj)) hA
  exact ⟨(a, t), q1, ⟨cA, q3, q5, by rw [q6]; exact q2, hA a (Array.getElem?_eq_some_iff.mp q3).1⟩, vk_OFof q1 (va_eqt hco) hA, vk_OFof q1 ht hA, hT⟩
theorem st_sta {n : String} {f : Nat → Int32} {p : Nat} (hs : ∀ w ∈ st_fl, w.before args s = true) (h : (st_fl.drop p).take 10 = st_wa n f) (hl : (Cond.laysStatic "PackedCache" n "[I").before args s = true) (hini : (Cond.initialized "PackedCache").before args s = true) (hA : ∀ a : Nat, a < s.heap.size → ¬ A a) : ∃ t : Nat, va_Z "PackedCache" n "[I" (.ref t) A s s.heap ∧ va_T .int t 8 (fun j => .int (f j)) A s s.heap := by
  have hm : ∀ w ∈ st_wa n f, w.before args s = true := fun w hw => hs w (st_in h hw)
  have har := hm (.arrayOf (.static "PackedCache" n "[I") .int) (List.mem_append_left _ List.mem_cons_self)
  have hle := hm (.eq (.length (.static "PackedCache" n "[I")) (.int (Int32.ofNat 8))) (List.mem_append_left _ (List.mem_cons_of_mem _ List.mem_cons_self))
  have hel : ∀ j : Nat, j < 8 → (Cond.eq (.elem (.static "PackedCache" n "[I") (.int (Int32.ofNat j))) (.int (f j))).before args s = true := fun j hj => hm _ (List.mem_append_right _ (List.mem_map.mpr ⟨j, List.mem_range.mpr hj, rfl⟩))
  obtain ⟨t, ht, hT⟩ := va_Tof (N := 8) (f := fun j => .int (f j)) (A := A) (by decide) har (va_eqt hle) (fun j hj => va_eqt (hel j hj)) hA
  exact ⟨t, va_Zof hl hini ht hA, hT⟩
theorem st_arr {ty : FieldType} (h : (Cond.arrayClass ty).before args s = true) (hobj : ∀ c, ty ≠ .object c) : ∃ cA : ClassId, ArrOfT s cA ty ∧ va_RA s cA ty := by
  obtain ⟨cA, kA, comp, h1, h2, h3⟩ := Cond.arrayClass_spec h
  refine ⟨cA, fun n z => ⟨fun k h => (by cases h), kA, h2, comp, h3⟩, ?_⟩
  cases ty <;> first | exact absurd rfl (hobj _) | exact h1
theorem st_arq {C : String} (h : (Cond.arrayOver (.object C)).before args s = true) : ∃ cA : ClassId, ArrOfT s cA (.object C) ∧ va_RA s cA (.object C) := by
  obtain ⟨comp, c, k, h1, h2, h3, h4, h5⟩ := Cond.arrayOver_spec h
  exact ⟨c, fun n z => ⟨fun k h => (by cases h), k, h3, comp, h4⟩, k, comp, h3, h4, h1, h5⟩
end STP
theorem st_c0 : (st_fl.drop 62).take (([99, 97, 99, 104, 101] : List Int32).length + 4) = st_ws "PackedCache$Teller" 84 [99, 97, 99, 104, 101] := by decide +kernel
theorem st_r0 : Cond.stringRef "PackedCache$Teller" 84 "cache" ∈ lw_tbl := List.mem_append_right _ (List.mem_of_getElem? (i := 321) (by decide +kernel))
theorem st_c1 : (st_fl.drop 71).take (([115, 101, 116, 115] : List Int32).length + 4) = st_ws "PackedCache$Teller" 130 [115, 101, 116, 115] := by decide +kernel
theorem st_r1 : Cond.stringRef "PackedCache$Teller" 130 "sets" ∈ lw_tbl := List.mem_append_right _ (List.mem_of_getElem? (i := 382) (by decide +kernel))
theorem st_c2 : (st_fl.drop 80).take (([119, 97, 121, 115] : List Int32).length + 4) = st_ws "PackedCache$Teller" 137 [119, 97, 121, 115] := by decide +kernel
theorem st_r2 : Cond.stringRef "PackedCache$Teller" 137 "ways" ∈ lw_tbl := List.mem_append_right _ (List.mem_of_getElem? (i := 395) (by decide +kernel))
theorem st_c3 : (st_fl.drop 90).take (([108, 97, 116, 101, 108, 121] : List Int32).length + 4) = st_ws "PackedCache$Teller" 139 [108, 97, 116, 101, 108, 121] := by decide +kernel
theorem st_r3 : Cond.stringRef "PackedCache$Teller" 139 "lately" ∈ lw_tbl := List.mem_append_right _ (List.mem_of_getElem? (i := 396) (by decide +kernel))
theorem st_c4 : (st_fl.drop 103).take (([119, 101, 105, 103, 104, 101, 100] : List Int32).length + 4) = st_ws "PackedCache$Teller" 141 [119, 101, 105, 103, 104, 101, 100] := by decide +kernel
theorem st_r4 : Cond.stringRef "PackedCache$Teller" 141 "weighed" ∈ lw_tbl := List.mem_append_right _ (List.mem_of_getElem? (i := 397) (by decide +kernel))
theorem st_c5 : (st_fl.drop 118).take (([108, 105, 110, 101] : List Int32).length + 4) = st_ws "PackedCache$Teller" 92 [108, 105, 110, 101] := by decide +kernel
theorem st_r5 : Cond.stringRef "PackedCache$Teller" 92 "line" ∈ lw_tbl := List.mem_append_right _ (List.mem_of_getElem? (i := 398) (by decide +kernel))
theorem st_c6 : (st_fl.drop 131).take (([114, 101, 97, 100] : List Int32).length + 4) = st_ws "PackedCache$Teller" 104 [114, 101, 97, 100] := by decide +kernel
theorem st_r6 : Cond.stringRef "PackedCache$Teller" 104 "read" ∈ lw_tbl := List.mem_append_right _ (List.mem_of_getElem? (i := 408) (by decide +kernel))
theorem st_c7 : (st_fl.drop 145).take (([119, 114, 105, 116, 101] : List Int32).length + 4) = st_ws "PackedCache$Teller" 113 [119, 114, 105, 116, 101] := by decide +kernel
theorem st_r7 : Cond.stringRef "PackedCache$Teller" 113 "write" ∈ lw_tbl := List.mem_append_right _ (List.mem_of_getElem? (i := 413) (by decide +kernel))
theorem st_c8 : (st_fl.drop 161).take (([117, 110, 115, 117, 114, 101] : List Int32).length + 4) = st_ws "PackedCache$Teller" 115 [117, 110, 115, 117, 114, 101] := by decide +kernel
theorem st_r8 : Cond.stringRef "PackedCache$Teller" 115 "unsure" ∈ lw_tbl := List.mem_append_right _ (List.mem_of_getElem? (i := 414) (by decide +kernel))
theorem st_c9 : (st_fl.drop 179).take (([115, 97, 119] : List Int32).length + 4) = st_ws "PackedCache$Teller" 122 [115, 97, 119] := by decide +kernel
theorem st_r9 : Cond.stringRef "PackedCache$Teller" 122 "saw" ∈ lw_tbl := List.mem_append_right _ (List.mem_of_getElem? (i := 423) (by decide +kernel))
theorem st_c10 : (st_fl.drop 195).take (([104, 105, 116] : List Int32).length + 4) = st_ws "PackedCache$Teller" 174 [104, 105, 116] := by decide +kernel
theorem st_r10 : Cond.stringRef "PackedCache$Teller" 174 "hit" ∈ lw_tbl := List.mem_append_right _ (List.mem_of_getElem? (i := 432) (by decide +kernel))
theorem st_c11 : (st_fl.drop 212).take (([109, 105, 115, 115] : List Int32).length + 4) = st_ws "PackedCache$Teller" 176 [109, 105, 115, 115] := by decide +kernel
theorem st_r11 : Cond.stringRef "PackedCache$Teller" 176 "miss" ∈ lw_tbl := List.mem_append_right _ (List.mem_of_getElem? (i := 433) (by decide +kernel))
theorem st_c12 : (st_fl.drop 231).take (([110, 111, 32, 115, 117, 99, 104, 32, 108, 105, 110, 101, 32, 105, 115, 32, 100, 105, 114, 116, 121] : List Int32).length + 4) = st_ws "PackedCache" 276 [110, 111, 32, 115, 117, 99, 104, 32, 108, 105, 110, 101, 32, 105, 115, 32, 100, 105, 114, 116, 121] := by decide +kernel
theorem st_r12 : Cond.stringRef "PackedCache" 276 "no such line is dirty" ∈ lw_tbl := List.mem_append_right _ (List.mem_of_getElem? (i := 865) (by decide +kernel))
theorem st_c13 : (st_fl.drop 268).take (([99, 97, 99, 104, 101] : List Int32).length + 4) = st_ws "PackedCacheModel" 153 [99, 97, 99, 104, 101] := by decide +kernel
theorem st_r13 : Cond.stringRef "PackedCacheModel" 153 "cache" ∈ lw_tbl := List.mem_append_right _ (List.mem_of_getElem? (i := 1114) (by decide +kernel))
theorem st_c14 : (st_fl.drop 290).take (([115, 101, 116, 115] : List Int32).length + 4) = st_ws "PackedCacheModel" 180 [115, 101, 116, 115] := by decide +kernel
theorem st_r14 : Cond.stringRef "PackedCacheModel" 180 "sets" ∈ lw_tbl := List.mem_append_right _ (List.mem_of_getElem? (i := 1132) (by decide +kernel))
theorem st_c15 : (st_fl.drop 312).take (([119, 97, 121, 115] : List Int32).length + 4) = st_ws "PackedCacheModel" 185 [119, 97, 121, 115] := by decide +kernel
theorem st_r15 : Cond.stringRef "PackedCacheModel" 185 "ways" ∈ lw_tbl := List.mem_append_right _ (List.mem_of_getElem? (i := 1152) (by decide +kernel))
theorem st_c16 : (st_fl.drop 335).take (([119, 101, 105, 103, 104, 101, 100] : List Int32).length + 4) = st_ws "PackedCacheModel" 187 [119, 101, 105, 103, 104, 101, 100] := by decide +kernel
theorem st_r16 : Cond.stringRef "PackedCacheModel" 187 "weighed" ∈ lw_tbl := List.mem_append_right _ (List.mem_of_getElem? (i := 1153) (by decide +kernel))
theorem st_c17 : (st_fl.drop 362).take (([108, 97, 116, 101, 108, 121] : List Int32).length + 4) = st_ws "PackedCacheModel" 189 [108, 97, 116, 101, 108, 121] := by decide +kernel
theorem st_r17 : Cond.stringRef "PackedCacheModel" 189 "lately" ∈ lw_tbl := List.mem_append_right _ (List.mem_of_getElem? (i := 1154) (by decide +kernel))
theorem st_c18 : (st_fl.drop 389).take (([108, 105, 110, 101] : List Int32).length + 4) = st_ws "PackedCacheModel" 158 [108, 105, 110, 101] := by decide +kernel
theorem st_r18 : Cond.stringRef "PackedCacheModel" 158 "line" ∈ lw_tbl := List.mem_append_right _ (List.mem_of_getElem? (i := 1155) (by decide +kernel))
theorem st_c19 : (st_fl.drop 415).take (([114, 101, 97, 100] : List Int32).length + 4) = st_ws "PackedCacheModel" 163 [114, 101, 97, 100] := by decide +kernel
theorem st_r19 : Cond.stringRef "PackedCacheModel" 163 "read" ∈ lw_tbl := List.mem_append_right _ (List.mem_of_getElem? (i := 1168) (by decide +kernel))
theorem st_c20 : (st_fl.drop 442).take (([119, 114, 105, 116, 101] : List Int32).length + 4) = st_ws "PackedCacheModel" 168 [119, 114, 105, 116, 101] := by decide +kernel
theorem st_r20 : Cond.stringRef "PackedCacheModel" 168 "write" ∈ lw_tbl := List.mem_append_right _ (List.mem_of_getElem? (i := 1173) (by decide +kernel))
theorem st_c21 : (st_fl.drop 471).take (([117, 110, 115, 117, 114, 101] : List Int32).length + 4) = st_ws "PackedCacheModel" 170 [117, 110, 115, 117, 114, 101] := by decide +kernel
theorem st_r21 : Cond.stringRef "PackedCacheModel" 170 "unsure" ∈ lw_tbl := List.mem_append_right _ (List.mem_of_getElem? (i := 1174) (by decide +kernel))
theorem st_c22 : (st_fl.drop 502).take (([115, 97, 119] : List Int32).length + 4) = st_ws "PackedCacheModel" 175 [115, 97, 119] := by decide +kernel
theorem st_r22 : Cond.stringRef "PackedCacheModel" 175 "saw" ∈ lw_tbl := List.mem_append_right _ (List.mem_of_getElem? (i := 1182) (by decide +kernel))
theorem st_c23 : (st_fl.drop 531).take (([104, 105, 116] : List Int32).length + 4) = st_ws "PackedCacheModel" 242 [104, 105, 116] := by decide +kernel
theorem st_r23 : Cond.stringRef "PackedCacheModel" 242 "hit" ∈ lw_tbl := List.mem_append_right _ (List.mem_of_getElem? (i := 1187) (by decide +kernel))
theorem st_c24 : (st_fl.drop 561).take (([109, 105, 115, 115] : List Int32).length + 4) = st_ws "PackedCacheModel" 244 [109, 105, 115, 115] := by decide +kernel
theorem st_r24 : Cond.stringRef "PackedCacheModel" 244 "miss" ∈ lw_tbl := List.mem_append_right _ (List.mem_of_getElem? (i := 1188) (by decide +kernel))
theorem st_a0 : (st_fl.drop 32).take 10 = st_wa "FORM_BYTES" (zSv 0) := by decide +kernel
theorem st_l0 : Cond.laysStatic "PackedCache" "FORM_BYTES" "[I" ∈ lw_tbl := List.mem_append_right _ (List.mem_of_getElem? (i := 517) (by decide +kernel))
theorem st_a1 : (st_fl.drop 43).take 10 = st_wa "FORM_SEGMENTS" (zSv 1) := by decide +kernel
theorem st_l1 : Cond.laysStatic "PackedCache" "FORM_SEGMENTS" "[I" ∈ lw_tbl := List.mem_append_right _ (List.mem_of_getElem? (i := 527) (by decide +kernel))
theorem st_a2 : (st_fl.drop 10).take 10 = st_wa "LANE_WIDTH" (zSv 2) := by decide +kernel
theorem st_l2 : Cond.laysStatic "PackedCache" "LANE_WIDTH" "[I" ∈ lw_tbl := List.mem_append_right _ (List.mem_of_getElem? (i := 499) (by decide +kernel))
theorem st_a3 : (st_fl.drop 21).take 10 = st_wa "SMALL_END" (zSv 3) := by decide +kernel
theorem st_l3 : Cond.laysStatic "PackedCache" "SMALL_END" "[I" ∈ lw_tbl := List.mem_append_right _ (List.mem_of_getElem? (i := 507) (by decide +kernel))
theorem st_p0 : Cond.eq (.static "java/lang/String" "COMPACT_STRINGS" "Z") (.int 1) ∈ st_fl := List.mem_of_getElem? (i := 4) (by decide +kernel)
theorem st_p1 : Cond.isRef (.static "jdk/internal/util/Preconditions" "SIOOBE_FORMATTER" "Ljava/util/function/BiFunction;") ∈ st_fl := List.mem_of_getElem? (i := 5) (by decide +kernel)
theorem st_p2 : Cond.isRef (.static Bundle.tN "UNASSIGNED_STACK" Bundle.steD) ∈ st_fl := List.mem_of_getElem? (i := 53) (by decide +kernel)
theorem st_p3 : Cond.isRef (.static Bundle.tN "SUPPRESSED_SENTINEL" Bundle.listD) ∈ st_fl := List.mem_of_getElem? (i := 54) (by decide +kernel)
theorem st_t0 : Cond.laysStatic "java/lang/String" "COMPACT_STRINGS" "Z" ∈ lw_tbl := List.mem_append_right _ (List.mem_of_getElem? (i := 335) (by decide +kernel))
theorem st_t1 : Cond.initialized "java/lang/String" ∈ lw_tbl := List.mem_append_right _ (List.mem_of_getElem? (i := 9) (by decide +kernel))
theorem st_t2 : Cond.laysStatic "jdk/internal/util/Preconditions" "SIOOBE_FORMATTER" "Ljava/util/function/BiFunction;" ∈ lw_tbl := List.mem_append_right _ (List.mem_of_getElem? (i := 351) (by decide +kernel))
theorem st_t3 : Cond.initialized "jdk/internal/util/Preconditions" ∈ lw_tbl := List.mem_append_right _ (List.mem_of_getElem? (i := 11) (by decide +kernel))
theorem st_t4 : Cond.laysStatic Bundle.tN "UNASSIGNED_STACK" Bundle.steD ∈ lw_tbl := List.mem_append_right _ (List.mem_of_getElem? (i := 853) (by decide +kernel))
theorem st_t5 : Cond.laysStatic Bundle.tN "SUPPRESSED_SENTINEL" Bundle.listD ∈ lw_tbl := List.mem_append_right _ (List.mem_of_getElem? (i := 855) (by decide +kernel))
theorem st_t6 : Cond.initialized Bundle.tN ∈ lw_tbl := List.mem_append_right _ (List.mem_of_getElem? (i := 17) (by decide +kernel))
theorem st_t7 : Cond.initialized "PackedCache" ∈ lw_tbl := List.mem_append_right _ (List.mem_of_getElem? (i := 1) (by decide +kernel))
theorem st_t8 : Cond.arrayOver (.object "PackedCache$Store") ∈ lw_tbl := List.mem_append_right _ (List.mem_of_getElem? (i := 241) (by decide +kernel))
theorem st_i0 : Cond.instantiable "PackedCache$Past" 5 ∈ zW := zT 217 (by decide +kernel) (by decide +kernel)
theorem st_i1 : Cond.instantiable "PackedCache$Plan" 17 ∈ zW := zT 30 (by decide +kernel) (by decide +kernel)
theorem st_i2 : Cond.instantiable "PackedCache$Store" 14 ∈ zW := zT 160 (by decide +kernel) (by decide +kernel)
theorem st_i3 : Cond.instantiable "PackedCache$Teller" 9 ∈ zW := zT 124 (by decide +kernel) (by decide +kernel)
theorem st_i4 : Cond.instantiable "PackedCache" 12 ∈ zW := zT 22 (by decide +kernel) (by decide +kernel)
theorem st_i5 : Cond.instantiable "PackedCacheModel$Cache" 16 ∈ zW := zT 1030 (by decide +kernel) (by decide +kernel)
theorem st_i6 : Cond.instantiable "PackedCacheModel" 38 ∈ zW := zT 892 (by decide +kernel) (by decide +kernel)
section STQ
variable {args : Array Value} {s : State} {A : Nat → Prop}
theorem st_strs (hts : ∀ w ∈ lw_tbl, w.before args s = true) (hs : ∀ w ∈ st_fl, w.before args s = true) (hA : ∀ a : Nat, a < s.heap.size → ¬ A a) : ∀ i : Nat, ∃ q : Nat × Nat, ∀ z : String × Nat × String × List Int32, zStr[i]? = some z → vk_R z.1 z.2.1 z.2.2.1 q.1 s ∧ va_O "java/lang/String" q.1 A s s.heap ∧ va_OF "java/lang/String" "coder" "B" (.int 0) q.1 A s s.heap ∧ va_OF "java/lang/String" "value" "[B" (.ref q.2) q.1 A s s.heap ∧ va_T .byte q.2 z.2.2.2.length (fun j => .int (z.2.2.2.getD j 0)) A s s.heap
  | 0 => by
    obtain ⟨q, h1, h2⟩ := st_str (A := A) hs st_c0 (by decide) hA
    refine ⟨q, fun z e => ?_⟩
    rw [show zStr[0]? = some ("PackedCache$Teller", 84, "cache", [99, 97, 99, 104, 101]) from rfl] at e
    cases e
    exact ⟨vk_R.of (hts _ st_r0) h1, h2⟩
  | 1 => by
    obtain ⟨q, h1, h2⟩ := st_str (A := A) hs st_c1 (by decide) hA
    refine ⟨q, fun z e => ?_⟩
    rw [show zStr[1]? = some ("PackedCache$Teller", 130, "sets", [115, 101, 116, 115]) from rfl] at e
    cases e
    exact ⟨vk_R.of (hts _ st_r1) h1, h2⟩
  | 2 => by
    obtain ⟨q, h1, h2⟩ := st_str (A := A) hs st_c2 (by decide) hA
    refine ⟨q, fun z e => ?_⟩
    rw [show zStr[2]? = some ("PackedCache$Teller", 137, "ways", [119, 97, 121, 115]) from rfl] at e
    cases e
    exact ⟨vk_R.of (hts _ st_r2) h1, h2⟩
  | 3 => by
    obtain ⟨q, h1, h2⟩ := st_str (A := A) hs st_c3 (by decide) hA
    refine ⟨q, fun z e => ?_⟩
    rw [show zStr[3]? = some ("PackedCache$Teller", 139, "lately", [108, 97, 116, 101, 108, 121]) from rfl] at e
    cases e
    exact ⟨vk_R.of (hts _ st_r3) h1, h2⟩
  | 4 => by
    obtain ⟨q, h1, h2⟩ := st_str (A := A) hs st_c4 (by decide) hA
    refine ⟨q, fun z e => ?_⟩
    rw [show zStr[4]? = some ("PackedCache$Teller", 141, "weighed", [119, 101, 105, 103, 104, 101, 100]) from rfl] at e
    cases e
    exact ⟨vk_R.of (hts _ st_r4) h1, h2⟩
  | 5 => by
    obtain ⟨q, h1, h2⟩ := st_str (A := A) hs st_c5 (by decide) hA
    refine ⟨q, fun z e => ?_⟩
    rw [show zStr[5]? = some ("PackedCache$Teller", 92, "line", [108, 105, 110, 101]) from rfl] at e
    cases e
    exact ⟨vk_R.of (hts _ st_r5) h1, h2⟩
  | 6 => by
    obtain ⟨q, h1, h2⟩ := st_str (A := A) hs st_c6 (by decide) hA
    refine ⟨q, fun z e => ?_⟩
    rw [show zStr[6]? = some ("PackedCache$Teller", 104, "read", [114, 101, 97, 100]) from rfl] at e
    cases e
    exact ⟨vk_R.of (hts _ st_r6) h1, h2⟩
  | 7 => by
    obtain ⟨q, h1, h2⟩ := st_str (A := A) hs st_c7 (by decide) hA
    refine ⟨q, fun z e => ?_⟩
    rw [show zStr[7]? = some ("PackedCache$Teller", 113, "write", [119, 114, 105, 116, 101]) from rfl] at e
    cases e
    exact ⟨vk_R.of (hts _ st_r7) h1, h2⟩
  | 8 => by
    obtain ⟨q, h1, h2⟩ := st_str (A := A) hs st_c8 (by decide) hA
    refine ⟨q, fun z e => ?_⟩
    rw [show zStr[8]? = some ("PackedCache$Teller", 115, "unsure", [117, 110, 115, 117, 114, 101]) from rfl] at e
    cases e
    exact ⟨vk_R.of (hts _ st_r8) h1, h2⟩
  | 9 => by
    obtain ⟨q, h1, h2⟩ := st_str (A := A) hs st_c9 (by decide) hA
    refine ⟨q, fun z e => ?_⟩
    rw [show zStr[9]? = some ("PackedCache$Teller", 122, "saw", [115, 97, 119]) from rfl] at e
    cases e
    exact ⟨vk_R.of (hts _ st_r9) h1, h2⟩
  | 10 => by
    obtain ⟨q, h1, h2⟩ := st_str (A := A) hs st_c10 (by decide) hA
    refine ⟨q, fun z e => ?_⟩
    rw [show zStr[10]? = some ("PackedCache$Teller", 174, "hit", [104, 105, 116]) from rfl] at e
    cases e
    exact ⟨vk_R.of (hts _ st_r10) h1, h2⟩
  | 11 => by
    obtain ⟨q, h1, h2⟩ := st_str (A := A) hs st_c11 (by decide) hA
    refine ⟨q, fun z e => ?_⟩
    rw [show zStr[11]? = some ("PackedCache$Teller", 176, "miss", [109, 105, 115, 115]) from rfl] at e
    cases e
    exact ⟨vk_R.of (hts _ st_r11) h1, h2⟩
  | 12 => by
    obtain ⟨q, h1, h2⟩ := st_str (A := A) hs st_c12 (by decide) hA
    refine ⟨q, fun z e => ?_⟩
    rw [show zStr[12]? = some ("PackedCache", 276, "no such line is dirty", [110, 111, 32, 115, 117, 99, 104, 32, 108, 105, 110, 101, 32, 105, 115, 32, 100, 105, 114, 116, 121]) from rfl] at e
    cases e
    exact ⟨vk_R.of (hts _ st_r12) h1, h2⟩
  | 13 => by
    obtain ⟨q, h1, h2⟩ := st_str (A := A) hs st_c13 (by decide) hA
    refine ⟨q, fun z e => ?_⟩
    rw [show zStr[13]? = some ("PackedCacheModel", 153, "cache", [99, 97, 99, 104, 101]) from rfl] at e
    cases e
    exact ⟨vk_R.of (hts _ st_r13) h1, h2⟩
  | 14 => by
    obtain ⟨q, h1, h2⟩ := st_str (A := A) hs st_c14 (by decide) hA
    refine ⟨q, fun z e => ?_⟩
    rw [show zStr[14]? = some ("PackedCacheModel", 180, "sets", [115, 101, 116, 115]) from rfl] at e
    cases e
    exact ⟨vk_R.of (hts _ st_r14) h1, h2⟩
  | 15 => by
    obtain ⟨q, h1, h2⟩ := st_str (A := A) hs st_c15 (by decide) hA
    refine ⟨q, fun z e => ?_⟩
    rw [show zStr[15]? = some ("PackedCacheModel", 185, "ways", [119, 97, 121, 115]) from rfl] at e
    cases e
    exact ⟨vk_R.of (hts _ st_r15) h1, h2⟩
  | 16 => by
    obtain ⟨q, h1, h2⟩ := st_str (A := A) hs st_c16 (by decide) hA
    refine ⟨q, fun z e => ?_⟩
    rw [show zStr[16]? = some ("PackedCacheModel", 187, "weighed", [119, 101, 105, 103, 104, 101, 100]) from rfl] at e
    cases e
    exact ⟨vk_R.of (hts _ st_r16) h1, h2⟩
  | 17 => by
    obtain ⟨q, h1, h2⟩ := st_str (A := A) hs st_c17 (by decide) hA
    refine ⟨q, fun z e => ?_⟩
    rw [show zStr[17]? = some ("PackedCacheModel", 189, "lately", [108, 97, 116, 101, 108, 121]) from rfl] at e
    cases e
    exact ⟨vk_R.of (hts _ st_r17) h1, h2⟩
  | 18 => by
    obtain ⟨q, h1, h2⟩ := st_str (A := A) hs st_c18 (by decide) hA
    refine ⟨q, fun z e => ?_⟩
    rw [show zStr[18]? = some ("PackedCacheModel", 158, "line", [108, 105, 110, 101]) from rfl] at e
    cases e
    exact ⟨vk_R.of (hts _ st_r18) h1, h2⟩
  | 19 => by
    obtain ⟨q, h1, h2⟩ := st_str (A := A) hs st_c19 (by decide) hA
    refine ⟨q, fun z e => ?_⟩
    rw [show zStr[19]? = some ("PackedCacheModel", 163, "read", [114, 101, 97, 100]) from rfl] at e
    cases e
    exact ⟨vk_R.of (hts _ st_r19) h1, h2⟩
  | 20 => by
    obtain ⟨q, h1, h2⟩ := st_str (A := A) hs st_c20 (by decide) hA
    refine ⟨q, fun z e => ?_⟩
    rw [show zStr[20]? = some ("PackedCacheModel", 168, "write", [119, 114, 105, 116, 101]) from rfl] at e
    cases e
    exact ⟨vk_R.of (hts _ st_r20) h1, h2⟩
  | 21 => by
    obtain ⟨q, h1, h2⟩ := st_str (A := A) hs st_c21 (by decide) hA
    refine ⟨q, fun z e => ?_⟩
    rw [show zStr[21]? = some ("PackedCacheModel", 170, "unsure", [117, 110, 115, 117, 114, 101]) from rfl] at e
    cases e
    exact ⟨vk_R.of (hts _ st_r21) h1, h2⟩
  | 22 => by
    obtain ⟨q, h1, h2⟩ := st_str (A := A) hs st_c22 (by decide) hA
    refine ⟨q, fun z e => ?_⟩
    rw [show zStr[22]? = some ("PackedCacheModel", 175, "saw", [115, 97, 119]) from rfl] at e
    cases e
    exact ⟨vk_R.of (hts _ st_r22) h1, h2⟩
  | 23 => by
    obtain ⟨q, h1, h2⟩ := st_str (A := A) hs st_c23 (by decide) hA
    refine ⟨q, fun z e => ?_⟩
    rw [show zStr[23]? = some ("PackedCacheModel", 242, "hit", [104, 105, 116]) from rfl] at e
    cases e
    exact ⟨vk_R.of (hts _ st_r23) h1, h2⟩
  | 24 => by
    obtain ⟨q, h1, h2⟩ := st_str (A := A) hs st_c24 (by decide) hA
    refine ⟨q, fun z e => ?_⟩
    rw [show zStr[24]? = some ("PackedCacheModel", 244, "miss", [109, 105, 115, 115]) from rfl] at e
    cases e
    exact ⟨vk_R.of (hts _ st_r24) h1, h2⟩
  | i + 25 => ⟨(0, 0), fun z e => by
    have hl : zStr.length = 25 := rfl
    rw [List.getElem?_eq_none (by omega)] at e
    cases e⟩
theorem st_cls (htz : ∀ w ∈ zW, w.before args s = true) : ∀ k : Nat, ∃ d : ClassId × (Nat → Nat), ∀ q : vw_C, vwCl[k]? = some q → u_Kn s q.1 q.2.1 q.2.2 d.1 d.2
  | 0 => by
    obtain ⟨c, i, h⟩ := u_known (C := RX0) (T := TX0) (N := 5) (n := 5) htz zcl_X0.1 (htz _ st_i0)
    refine ⟨(c, i), fun q e => ?_⟩
    rw [show vwCl[0]? = some (RX0, TX0, 5) from rfl] at e
    cases e
    exact h
  | 1 => by
    obtain ⟨c, i, h⟩ := u_known (C := RX1) (T := TX1) (N := 17) (n := 17) htz zcl_X1.1 (htz _ st_i1)
    refine ⟨(c, i), fun q e => ?_⟩
    rw [show vwCl[1]? = some (RX1, TX1, 17) from rfl] at e
    cases e
    exact h
  | 2 => by
    obtain ⟨c, i, h⟩ := u_known (C := RX3) (T := TX3) (N := 14) (n := 14) htz zcl_X3.1 (htz _ st_i2)
    refine ⟨(c, i), fun q e => ?_⟩
    rw [show vwCl[2]? = some (RX3, TX3, 14) from rfl] at e
    cases e
    exact h
  | 3 => by
    obtain ⟨c, i, h⟩ := u_known (C := RX4) (T := TX4) (N := 9) (n := 9) htz zcl_X4.1 (htz _ st_i3)
    refine ⟨(c, i), fun q e => ?_⟩
    rw [show vwCl[3]? = some (RX4, TX4, 9) from rfl] at e
    cases e
    exact h
  | 4 => by
    obtain ⟨c, i, h⟩ := u_known (C := RX5) (T := TX5) (N := 12) (n := 12) htz zcl_X5.1 (htz _ st_i4)
    refine ⟨(c, i), fun q e => ?_⟩
    rw [show vwCl[4]? = some (RX5, TX5, 12) from rfl] at e
    cases e
    exact h
  | 5 => by
    obtain ⟨c, i, h⟩ := u_known (C := RX6) (T := TX6) (N := 16) (n := 16) htz zcl_X6.1 (htz _ st_i5)
    refine ⟨(c, i), fun q e => ?_⟩
    rw [show vwCl[5]? = some (RX6, TX6, 16) from rfl] at e
    cases e
    exact h
  | 6 => by
    obtain ⟨c, i, h⟩ := u_known (C := RX7) (T := TX7) (N := 38) (n := 38) htz zcl_X7.1 (htz _ st_i6)
    refine ⟨(c, i), fun q e => ?_⟩
    rw [show vwCl[6]? = some (RX7, TX7, 38) from rfl] at e
    cases e
    exact h
  | k + 7 => ⟨(0, fun _ => 0), fun q e => by
    have hl : vwCl.length = 7 := rfl
    rw [List.getElem?_eq_none (by omega)] at e
    cases e⟩
theorem st_stas (hts : ∀ w ∈ lw_tbl, w.before args s = true) (hs : ∀ w ∈ st_fl, w.before args s = true) (hA : ∀ a : Nat, a < s.heap.size → ¬ A a) : ∀ i : Nat, ∃ t : Nat, i < 4 → va_Z "PackedCache" (zSn i) "[I" (.ref t) A s s.heap ∧ va_T .int t 8 (fun j => .int (zSv i j)) A s s.heap
  | 0 => by
    obtain ⟨t, h⟩ := st_sta (A := A) hs st_a0 (hts _ st_l0) (hts _ st_t7) hA
    exact ⟨t, fun _ => h⟩
  | 1 => by
    obtain ⟨t, h⟩ := st_sta (A := A) hs st_a1 (hts _ st_l1) (hts _ st_t7) hA
    exact ⟨t, fun _ => h⟩
  | 2 => by
    obtain ⟨t, h⟩ := st_sta (A := A) hs st_a2 (hts _ st_l2) (hts _ st_t7) hA
    exact ⟨t, fun _ => h⟩
  | 3 => by
    obtain ⟨t, h⟩ := st_sta (A := A) hs st_a3 (hts _ st_l3) (hts _ st_t7) hA
    exact ⟨t, fun _ => h⟩
  | i + 4 => ⟨0, fun h => absurd h (by omega)⟩
theorem st_zG (hts : ∀ w ∈ lw_tbl, w.before args s = true) (hs : ∀ w ∈ st_fl, w.before args s = true) (hA : ∀ a : Nat, a < s.heap.size → ¬ A a) : ∃ E : zE, zG E A s s.heap := by
  have htz : ∀ w ∈ zW, w.before args s = true := fun w hw => hts w (List.mem_filter.mp hw).1
  obtain ⟨d, hd⟩ := Classical.axiomOfChoice (st_cls htz)
  obtain ⟨q, hq⟩ := Classical.axiomOfChoice (st_strs (A := A) hts hs hA)
  obtain ⟨t, ht⟩ := Classical.axiomOfChoice (st_stas (A := A) hts hs hA)
  obtain ⟨c0, a0⟩ := st_arr (ty := .int) (htz _ zw_arr0) (fun _ h => nomatch h)
  obtain ⟨c1, a1⟩ := st_arr (ty := .byte) (htz _ zw_arr1) (fun _ h => nomatch h)
  obtain ⟨c2, a2⟩ := st_arr (ty := .boolean) (htz _ zw_arr2) (fun _ h => nomatch h)
  obtain ⟨c3, a3⟩ := st_arr (ty := .long) (htz _ zw_arr3) (fun _ h => nomatch h)
  obtain ⟨c4, a4⟩ := st_arq (hts _ st_t8)
  refine ⟨((fun k => (d k).1, fun k => (d k).2), fun i => match i with | 0 => c0 | 1 => c1 | 2 => c2 | 3 => c3 | _ => c4, t, fun i => (q i).1, fun i => (q i).2), ⟨fun k z h => hd k z h, fun k z h => ?_⟩, fun w hw => va_Nw.of (zN_tab hw) (hts w (List.mem_append_right _ (List.mem_filter.mp hw).1)), fun i hi => ht i hi, va_Zof (hts _ st_t0) (hts _ st_t1) (va_eqi (hs _ st_p0)) hA, fun i z h => hq i z h, va_Zqof (hts _ st_t2) (hts _ st_t3) (hs _ st_p1) hA, va_AO.of (hts _ st_t8)⟩
  match k, h with
  | 0, h =>
    have h : some ((c0 : ClassId), FieldType.int) = some z := h
    cases h
    exact a0
  | 1, h =>
    have h : some ((c1 : ClassId), FieldType.byte) = some z := h
    cases h
    exact a1
  | 2, h =>
    have h : some ((c2 : ClassId), FieldType.boolean) = some z := h
    cases h
    exact a2
  | 3, h =>
    have h : some ((c3 : ClassId), FieldType.long) = some z := h
    cases h
    exact a3
  | 4, h =>
    have h : some ((c4 : ClassId), FieldType.object "PackedCache$Store") = some z := h
    cases h
    exact a4
  | k + 5, h => exact nomatch (show (none : Option (ClassId × FieldType)) = some z from h)
theorem st_zTh (hts : ∀ w ∈ lw_tbl, w.before args s = true) (hs : ∀ w ∈ st_fl, w.before args s = true) (hA : ∀ a : Nat, a < s.heap.size → ¬ A a) : zTh A s s.heap :=
  ⟨vx_Zqof (hts _ st_t4) (hts _ st_t6) (hs _ st_p2) hA, vx_Zqof (hts _ st_t5) (hts _ st_t6) (hs _ st_p3) hA, fun w hw => va_Nw.of (ytB_ot w hw) (hts w (List.mem_append_right _ (ytB_tab w hw)))⟩
end STQ
