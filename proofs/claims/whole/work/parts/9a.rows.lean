/-! ===== the law's rows: the script, one call's arguments, comparisons ===== -/
def zSc (C : zX) (b L : Nat) (xs : Nat → Int32) : Prop := match C with
  | (_, _, _, _, s, _, _, _, _, _, A, _, _, _) => va_X b L xs s s.heap ∧ b < s.heap.size ∧ ¬ A b
section LAWR
variable {C : zX} {E : zE} {cc : ByteArray} {own : String} {nL : Nat} {rm : Room} {k n : Nat} {ws : va_W} {lv : List (Nat × Value)} {pc q : Nat} {st : List Value} {b L : Nat} {xs : Nat → Int32}
theorem j_scld (hC : zC C E cc own nL rm) (hS : zSc C b L xs) {i : Int32} (hin : vp_in i L) (hd : decode cc pc = .ok (.iaload, 1)) (hq : pc + 1 = q) (kk : J C k n ws lv q (.int (xs i.toNatClampNeg) :: st)) : J C k n ws lv pc (.int i :: .ref b :: st) := by
  obtain ⟨p, l, e, R, s, m, args, below, meth, c, A, nL', D, Q⟩ := C
  obtain ⟨hx, hb, hml, hown, hts, hG, hA, rfl, rfl, rfl⟩ := hC
  subst hq
  exact fun H locs ls hP hD hSS hl => va_sld hx hb hS.1 hS.2.1 hS.2.2 hSS hin hd (kk H locs ls hP hD hSS hl)
theorem j_sclen (hC : zC C E cc own nL rm) (hS : zSc C b L xs) (hd : decode cc pc = .ok (.arraylength, 1)) (hq : pc + 1 = q) (kk : J C k n ws lv q (.int (nI L) :: st)) : J C k n ws lv pc (.ref b :: st) := by
  obtain ⟨p, l, e, R, s, m, args, below, meth, c, A, nL', D, Q⟩ := C
  obtain ⟨hx, hb, hml, hown, hts, hG, hA, rfl, rfl, rfl⟩ := hC
  subst hq
  exact fun H locs ls hP hD hSS hl => va_slen hx hb hS.1 hS.2.1 hS.2.2 hSS hd (kk H locs ls hP hD hSS hl)
theorem j_add (hC : zC C E cc own nL rm) {x y : Int32} (hd : decode cc pc = .ok (.iadd, 1)) (hq : pc + 1 = q) (kk : J C k n ws lv q (.int (x + y) :: st)) : J C k n ws lv pc (.int y :: .int x :: st) :=
  j_iadd (K := some) (r := x + y) hC hd hq rfl (fun z hz => by cases hz; exact kk)
theorem j_sub' (hC : zC C E cc own nL rm) {x y : Int32} (hd : decode cc pc = .ok (.isub, 1)) (hq : pc + 1 = q) (kk : J C k n ws lv q (.int (x - y) :: st)) : J C k n ws lv pc (.int y :: .int x :: st) :=
  j_isub (K := some) (r := x - y) hC hd hq rfl (fun z hz => by cases hz; exact kk)
theorem j_and' (hC : zC C E cc own nL rm) {x y : Int32} (hd : decode cc pc = .ok (.iand, 1)) (hq : pc + 1 = q) (kk : J C k n ws lv q (.int (x &&& y) :: st)) : J C k n ws lv pc (.int y :: .int x :: st) :=
  j_iand (K := some) (r := x &&& y) hC hd hq rfl (fun z hz => by cases hz; exact kk)
/-- two answers that are the same -/
theorem j_cmp (hC : zC C E cc own nL rm) {x y : Int32} (h : x = y) {off : Int} {tgt : Nat} (hd : decode cc pc = .ok (.if_icmp .eq off, 3)) (ht : (pc : Int) + off = (tgt : Int)) (kk : J C k n ws lv tgt st) : J C k n ws lv pc (.int y :: .int x :: st) :=
  j_icmp_eq (q := pc + 3) (X := some ()) (Y := none) (r := ()) hC hd ht rfl (if_pos h) (fun _ _ => kk) (fun h2 _ => absurd h h2)
theorem j_cmpL (hC : zC C E cc own nL rm) {x y : Int64} (h : x = y) {off : Int} {p1 tgt : Nat} (hd : decode cc pc = .ok (.lcmp, 1)) (hp : pc + 1 = p1) (hd2 : decode cc p1 = .ok (.ifCond .eq off, 3)) (ht : (p1 : Int) + off = (tgt : Int)) (kk : J C k n ws lv tgt st) : J C k n ws lv pc (.long y :: .long x :: st) :=
  j_lcmp (q := p1) (K := some) (r := lg_cmp x y) hC hd hp rfl (fun z hz => by
    cases hz
    exact j_if_eq (q := p1 + 3) (X := some ()) (Y := none) (r := ()) hC hd2 ht rfl (if_pos ((lg_cmp_eq x y).mpr h)) (fun _ _ => kk) (fun h2 _ => absurd ((lg_cmp_eq x y).mpr h) h2))
theorem j_eqT (hC : zC C E cc own nL rm) {x : Int32} (h : x = 0) {off : Int} {tgt : Nat} (hd : decode cc pc = .ok (.ifCond .eq off, 3)) (ht : (pc : Int) + off = (tgt : Int)) (kk : J C k n ws lv tgt st) : J C k n ws lv pc (.int x :: st) :=
  j_if_eq (q := pc + 3) (X := some ()) (Y := none) (r := ()) hC hd ht rfl (if_pos h) (fun _ _ => kk) (fun h2 _ => absurd h h2)
theorem j_eqF (hC : zC C E cc own nL rm) {x : Int32} (h : ¬ x = 0) {off : Int} {tgt : Nat} (hd : decode cc pc = .ok (.ifCond .eq off, 3)) (ht : (pc : Int) + off = (tgt : Int)) (hq : pc + 3 = q) (kk : J C k n ws lv q st) : J C k n ws lv pc (.int x :: st) :=
  j_if_eq (q := q) (X := none) (Y := some ()) (r := ()) hC hd ht hq (if_neg h) (fun h2 _ => absurd h2 h) (fun _ _ => kk)
theorem j_neT (hC : zC C E cc own nL rm) {x : Int32} (h : ¬ x = 0) {off : Int} {tgt : Nat} (hd : decode cc pc = .ok (.ifCond .ne off, 3)) (ht : (pc : Int) + off = (tgt : Int)) (kk : J C k n ws lv tgt st) : J C k n ws lv pc (.int x :: st) :=
  j_if_ne (q := pc + 3) (X := some ()) (Y := none) (r := ()) hC hd ht rfl (if_neg h) (fun _ _ => kk) (fun h2 _ => absurd h2 h)
theorem j_neF (hC : zC C E cc own nL rm) {x : Int32} (h : x = 0) {off : Int} {tgt : Nat} (hd : decode cc pc = .ok (.ifCond .ne off, 3)) (ht : (pc : Int) + off = (tgt : Int)) (hq : pc + 3 = q) (kk : J C k n ws lv q st) : J C k n ws lv pc (.int x :: st) :=
  j_if_ne (q := q) (X := none) (Y := some ()) (r := ()) hC hd ht hq (if_pos h) (fun h2 _ => absurd h h2) (fun _ _ => kk)
/-- script[i + v] -/
theorem j_arg (hC : zC C E cc own nL rm) (hS : zSc C b L xs) {i v : Nat} {z : Int} (hlv0 : lv[0]? = some (0, .ref b)) (hlv4 : lv[4]? = some (4, .int (nI i))) (hz : Int32.ofInt z = nI v) (hi : i + v < L) (hL : L ≤ 3072)
    (d0 : decode cc pc = .ok (.aload_n 0, 1)) (d1 : decode cc (pc + 1) = .ok (.iload 4, 2)) (d2 : decode cc (pc + 3) = .ok (.iconst z, 1)) (d3 : decode cc (pc + 4) = .ok (.iadd, 1)) (d4 : decode cc (pc + 5) = .ok (.iaload, 1)) (hq : pc + 6 = q)
    (kk : J C k n ws lv q (.int (xs (i + v)) :: st)) : J C k n ws lv pc st := by
  refine j_aload_n (q := pc + 1) hC d0 rfl rfl 0 hlv0 ?_
  refine j_iload (q := pc + 3) hC d1 rfl 4 hlv4 ?_
  refine j_iconst (q := pc + 4) (v := nI v) hC d2 rfl hz ?_
  refine j_add (q := pc + 5) hC d3 rfl ?_
  rw [nI_add]
  refine j_scld (q := q) hC hS (vp_in_nI hi (by omega)) d4 (by omega) ?_
  rw [nI_clamp (by omega)]
  exact kk
end LAWR
