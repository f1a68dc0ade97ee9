/-! ===== calls that make cells, with a tail ===== -/
theorem nd_mk : ∀ {l : List Nat}, l.Nodup → va_nd l = true
  | [], _ => rfl
  | a :: l, h => by
    have := List.nodup_cons.mp h
    unfold va_nd
    rw [Bool.and_eq_true]
    exact ⟨decide_eq_true this.1, nd_mk this.2⟩
theorem nd_of : ∀ {l : List Nat}, va_nd l = true → l.Nodup
  | [], _ => List.nodup_nil
  | a :: l, h => by
    unfold va_nd at h
    rw [Bool.and_eq_true] at h
    exact List.nodup_cons.mpr ⟨of_decide_eq_true h.1, nd_of h.2⟩
theorem tail_at {ws T : va_W} : (List.range' ws.length T.length).map (fun i => (ws ++ T)[i]?) = T.map some := by
  apply List.ext_getElem?
  intro i
  rw [List.getElem?_map, List.getElem?_map]
  by_cases c : i < T.length
  · rw [List.getElem?_range' (by omega), List.getElem?_eq_getElem c]
    simp only [Option.map_some, Nat.one_mul]
    rw [List.getElem?_append_right (by omega), show ws.length + i - ws.length = i by omega]
    rw [List.getElem?_eq_getElem c]
  · rw [List.getElem?_eq_none (by simp; omega), List.getElem?_eq_none (by omega)]
    rfl
section FRM2
variable {C : zX} {E : zE} {cc : ByteArray} {own : String} {nL : Nat} {rm : Room} {k n : Nat} {ws T : va_W} {lv : List (Nat × Value)} {pc q : Nat} {st : List Value}
variable {y : MethodName} {cy : ByteArray} {nLy : Nat} {rety : Option FieldType} {rmy : Room} {wc wr : va_W} {b index na ci mc ms k' n' : Nat} {fs : List Value}
theorem j_permT {ws' : va_W} (is : List Nat) (hnd : va_nd is = true) (h : is.map (fun i => ws[i]?) = ws'.map some) (kk : J C k n (ws' ++ T) lv pc st) : J C k n (ws ++ T) lv pc st := by
  refine j_perm (is ++ List.range' ws.length T.length) (nd_mk ?_) ?_ kk
  · refine List.nodup_append.mpr ⟨nd_of hnd, List.nodup_range', fun a ha b hb e => ?_⟩
    have h1 := zCe_lt h a ha
    have h2 := (List.mem_range'_1.mp hb).1
    omega
  · rw [List.map_append, List.map_append, zCe_app h, tail_at]
theorem j_callVAT (hC : zC C E cc own nL rm) (As rest : List Value) (V : Option Value) (Wd : (Nat → Nat) → va_W) (is isR : List Nat)
    (hM : ∀ l sz, zMA l y cy nLy rety rmy E (.ref b :: As) wc sz mc ms V Wd) (hy : zYv y cy nLy rety na) (hlink : Cond.methodLink own index y ∈ zW) (hrm : zRmA rmy rm nLy mc ms k n) (hk : k + mc = k') (hn : n + ms = n')
    (hCe : is.map (fun i => ws[i]?) = wc.map some) (hnd : va_nd is = true) (hCr : isR.map (fun i => ws[i]?) = wr.map some) (hndR : va_nd isR = true) (hdis : ∀ i ∈ isR, i ∉ is)
    (hrecv : wc[0]? = some (b, .inr (ci, fs))) (hcl : (vwCl[ci]?).map (fun z => z.1) = some y.cls) (hna : As.length = na) (hst8 : (rest.map fun v => v.category).sum ≤ 8)
    (hd : decode cc pc = .ok (.invokevirtual index, 3)) (hq : pc + 3 = q) (hs : st = As.reverse ++ .ref b :: rest)
    (kk : ∀ a, J C k' n' ((Wd a ++ wr) ++ T) lv q (V.toList ++ rest)) : J C k n (ws ++ T) lv pc st := by
  refine j_callVA (wr := wr ++ T) hC As rest V Wd (V.toList ++ rest) is (isR ++ List.range' ws.length T.length) hM hy hlink hrm hk hn (zCe_app hCe) hnd (by rw [List.map_append, List.map_append, zCe_app hCr, tail_at]) (nd_mk ?_) (fun i hi => ?_) hrecv hcl hna hst8 hd hq hs rfl (fun a => ?_)
  · refine List.nodup_append.mpr ⟨nd_of hndR, List.nodup_range', fun a ha b hb e => ?_⟩
    have h1 := zCe_lt hCr a ha
    have h2 := (List.mem_range'_1.mp hb).1
    omega
  · rcases List.mem_append.mp hi with h | h
    · exact hdis i h
    · intro z
      have h1 := zCe_lt hCe i z
      have h2 := (List.mem_range'_1.mp h).1
      omega
  · refine j_swap ?_
    rw [← List.append_assoc]
    exact kk a
end FRM2
