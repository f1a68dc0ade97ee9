/-! ===== calls with a tail of the world that stays ===== -/
theorem zNewW_app {ws wd ws' T : va_W} {is : List Nat} (hi : ∀ i ∈ is, i < ws.length) (hl : ws'.length = ws.length) (h : zNewW ws is wd ws') : zNewW (ws ++ T) is wd (ws' ++ T) := by
  intro k q hq
  by_cases c : k < ws'.length
  · rw [List.getElem?_append_left c] at hq
    rcases h k q hq with h1 | ⟨h1, h2⟩
    · exact Or.inl h1
    · exact Or.inr ⟨h1, by rw [List.getElem?_append_left (by omega)]; exact h2⟩
  · rw [List.getElem?_append_right (by omega), hl] at hq
    refine Or.inr ⟨fun j _ hj => ?_, by rw [List.getElem?_append_right (by omega)]; exact hq⟩
    have := hi k (List.mem_of_getElem? hj)
    omega
theorem zCe_app {ws wc T : va_W} {is : List Nat} (h : is.map (fun i => ws[i]?) = wc.map some) : is.map (fun i => (ws ++ T)[i]?) = wc.map some := by
  rw [← h]
  refine List.map_congr_left (fun i hi => ?_)
  have h1 : (fun i => ws[i]?) i ∈ is.map (fun i => ws[i]?) := List.mem_map_of_mem hi
  rw [h] at h1
  obtain ⟨x, _, hx⟩ := List.mem_map.mp h1
  have hlt : i < ws.length := (List.getElem?_eq_some_iff.mp hx.symm).1
  exact List.getElem?_append_left hlt
theorem zCe_lt {ws wc : va_W} {is : List Nat} (h : is.map (fun i => ws[i]?) = wc.map some) : ∀ i ∈ is, i < ws.length := fun i hi => by
  have h1 : (fun i => ws[i]?) i ∈ is.map (fun i => ws[i]?) := List.mem_map_of_mem hi
  rw [h] at h1
  obtain ⟨x, _, hx⟩ := List.mem_map.mp h1
  exact (List.getElem?_eq_some_iff.mp hx.symm).1
section FRM
variable {C : zX} {E : zE} {cc : ByteArray} {own : String} {nL : Nat} {rm : Room} {k n : Nat} {ws T : va_W} {lv : List (Nat × Value)} {pc q : Nat} {st : List Value}
variable {y : MethodName} {cy : ByteArray} {nLy : Nat} {rety : Option FieldType} {rmy : Room} {wc : va_W} {b index na ci : Nat} {fs : List Value}
theorem j_callVT (hC : zC C E cc own nL rm) (As rest : List Value) (V : Option Value) (Wd ws' : va_W) (is isR : List Nat) {N : Nat}
    (hM : ∀ l sz, zM l y cy nLy rety rmy E (.ref b :: As) wc sz V Wd) (hy : zYv y cy nLy rety na) (hlink : Cond.methodLink own index y ∈ zW) (hrm : zRm rmy rm nLy k n)
    (hCe : is.map (fun i => ws[i]?) = wc.map some) (hnd : va_nd is = true) (hfst : Wd.map Prod.fst = wc.map Prod.fst) (hcov : (List.range N).all (fun k => is.contains k || isR.contains k) = true) (hput : is.map (fun i => ws'[i]?) = Wd.map some ∧ isR.map (fun i => ws'[i]?) = isR.map (fun i => ws[i]?) ∧ ws'.length = N) (hlen : ws.length = N)
    (hrecv : wc[0]? = some (b, .inr (ci, fs))) (hcl : (vwCl[ci]?).map (fun z => z.1) = some y.cls) (hna : As.length = na) (hst8 : (rest.map fun v => v.category).sum ≤ 8)
    (hd : decode cc pc = .ok (.invokevirtual index, 3)) (hq : pc + 3 = q) (hs : st = As.reverse ++ .ref b :: rest)
    (kk : J C k n (ws' ++ T) lv q (V.toList ++ rest)) : J C k n (ws ++ T) lv pc st := by
  obtain ⟨p, l, e, R, s, m, args, below, meth, c, A, nL', D, Q⟩ := C
  obtain ⟨hx, hb, hml, hown, hts, hG, hA, rfl, rfl, rfl⟩ := hC
  subst hq
  subst hs
  obtain ⟨hy1, hy2, hy3, hy4, hy5⟩ := hy
  obtain ⟨r1, r2, r3, r4, r5, r6⟩ := hrm
  intro H locs ls hP hD hS hl
  have hCe' := zCe_app (T := T) hCe
  have hPc : va_P E.1 vwCl wc H := fun k q hq => by
    obtain ⟨i, -, h2⟩ := zmap_at hCe' hq
    exact hP i q h2
  obtain ⟨qc, hqc, hqn⟩ : ∃ qc, vwCl[ci]? = some qc ∧ qc.1 = y.cls := by
    cases h : vwCl[ci]? with
    | none => rw [h] at hcl; cases hcl
    | some z => rw [h] at hcl; exact ⟨z, rfl, Option.some.inj hcl⟩
  have hrc := va_recv hG.1 hPc hqc hrecv
  rw [hqn] at hrc
  have hrun := va_runV (cells := k) (slots := n) (e := e) (below := below) (meth := meth) (locs := locs) (g := F0 m pc ls (As.reverse ++ .ref b :: rest)) (rest := rest) (C := y.cls) (b := b) (As := As) ⟨hx, hb, hml, hown, hts⟩ (hM l H.size)
    ⟨callB_of na hts (zGood' hy1) rfl r1 r2 (hts _ hy4) (hts _ hlink) hy5 ⟨r3, r4⟩, hts _ hy2, hts _ hy3⟩
    ⟨zPre_blind, hrc, zprep hG hP hD hS hA hCe' hnd⟩ rfl hna hl.1 rfl (lv_room hst8) hd ⟨r5, r6⟩
  exact zcall hrun hP hD hS hA hCe' hfst (zNewW_app (zCe_lt hCe) (by rw [hput.2.2, hlen]) (zNewW.of hcov hput)) fun H1 locs1 hP1 hD1 hS1 => kk H1 locs1 ls hP1 hD1 hS1 hl
theorem j_swap {A B : va_W} (kk : J C k n (B ++ A) lv pc st) : J C k n (A ++ B) lv pc st := by
  obtain ⟨p, l, e, R, s, m, args, below, meth, c, F, nL', D, Q⟩ := C
  intro H locs ls hP hD hS hl
  have mv : ∀ (i : Nat) (x : Nat × va_E), (B ++ A)[i]? = some x → (A ++ B)[if i < B.length then A.length + i else i - B.length]? = some x := by
    intro i x hx
    by_cases c : i < B.length
    · rw [if_pos c, List.getElem?_append_right (by omega), show A.length + i - A.length = i by omega]
      rw [List.getElem?_append_left c] at hx
      exact hx
    · rw [if_neg c]
      rw [List.getElem?_append_right (by omega)] at hx
      have := (List.getElem?_eq_some_iff.mp hx).1
      rw [List.getElem?_append_left this]
      exact hx
  refine kk H locs ls (fun i x hx => hP _ x (mv i x hx)) ⟨fun i j x z hi hj hxz => ?_, fun i x hx => hD.2 _ x (mv i x hx)⟩ hS hl
  have := hD.1 _ _ x z (mv i x hi) (mv j z hj) hxz
  have hi2 := (List.getElem?_eq_some_iff.mp hi).1
  have hj2 := (List.getElem?_eq_some_iff.mp hj).1
  simp at hi2 hj2
  split at this <;> split at this <;> omega
end FRM
