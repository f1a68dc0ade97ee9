/-! ===== the plain run ===== -/
section PLAIN3
variable {st wy : Nat} {B : Nat}
theorem pX7_plain_loop (hsw : zSW st wy) {cl at' cp : Nat → Int32} {L : zL} (hL : zLok L) (hx : zLM L cl at' cp) (hl : L.length ≤ 16) : ∀ (R P : zL) (N : Nat) (a : zA) (t : Int32) (h v b : Nat) (dirty line : Nat → Int32), P ++ R = L → R.length < N → zIA B a → aC a + R.length ≤ B → zIT (mkK st wy false true) a → zPR st wy a line dirty →
    ∃ di li, fX7_plainly_40 (nI st) (nI wy) (nI L.length) cl cp N (nI P.length) (nI h) (nI b) dirty line = some (nI (aRun (mkK st wy false true) P.length R (a, t, h, v, b)).2.2.1, nI (aRun (mkK st wy false true) P.length R (a, t, h, v, b)).2.2.2.2, di, li) := by
  intro R
  induction R with
  | nil =>
    intro P N a t h v b dirty line e hN hI hC hT hR
    obtain ⟨N, rfl⟩ : ∃ k, N = k + 1 := ⟨N - 1, by omega⟩
    rw [List.append_nil] at e
    rw [fX7_plainly_40, e, if_pos (Int32.le_refl _)]
    exact ⟨_, _, rfl⟩
  | cons s R ih =>
    intro P N a t h v b dirty line e hN hI hC hT hR
    obtain ⟨sp, wo⟩ := s
    obtain ⟨N, rfl⟩ : ∃ k, N = k + 1 := ⟨N - 1, by omega⟩
    have hlen : L.length = P.length + R.length + 1 := by rw [← e]; simp; omega
    have hs := hL (sp, wo) (by rw [← e]; simp)
    obtain ⟨x1, x2, x3⟩ := hx P.length (sp, wo) (by rw [← e]; simp)
    have e' : (P ++ [(sp, wo)]) ++ R = L := by rw [← e]; simp
    simp at hC hN
    obtain ⟨i1, i2⟩ := aUse_I (k := mkK st wy false true) (v := v) (b := b) hs.1 hI (by omega) hs.2
    have hT2 : zIT (mkK st wy false true) (aUse (mkK st wy false true) a sp wo v b).1 := aUse_T (mkK_ok hsw) hs.1 hT
    obtain ⟨di, li, f1, f2⟩ := pX7_plainUse (v := v) (b := b) (h := h) (wo := wo) hsw hI (by omega) hT hR hs.1
    have step := ih (P ++ [(sp, wo)]) N (aUse (mkK st wy false true) a sp wo v b).1 (if 0 < aU a (sp / 8) then t ||| ((1 : Int32) <<< (nI P.length &&& 31)) else t) (h + zbn (decide (0 < aU a (sp / 8)))) (aUse (mkK st wy false true) a sp wo v b).2.1 (aUse (mkK st wy false true) a sp wo v b).2.2 di li e' (by omega) i1 (by rw [i2]; omega) hT2 f2
    rw [show (P ++ [(sp, wo)]).length = P.length + 1 by simp] at step
    have key : ∃ di li, fX7_plainly_79 (nI st) (nI wy) (nI L.length) cl cp (fX7_plainly_40 (nI st) (nI wy) (nI L.length) cl cp N) (nI P.length) (nI (zbn wo.isSome)) (nI (sp / 8)) (nI h) (nI b) dirty line = some (nI (aRun (mkK st wy false true) P.length ((sp, wo) :: R) (a, t, h, v, b)).2.2.1, nI (aRun (mkK st wy false true) P.length ((sp, wo) :: R) (a, t, h, v, b)).2.2.2.2, di, li) := by
      unfold fX7_plainly_79
      rw [f1, Option.bind_some, zlet_e, show nI P.length + 1 = nI (P.length + 1) from nI_1 _]
      unfold aRun
      exact step
    rw [fX7_plainly_40, if_neg (nI_ge (by omega) (by omega)), zald_n (by omega) (by omega), zald_n (by omega) (by omega), x1, x3]
    cases wo with
    | none =>
      rw [if_pos (show zov (-1) none = -1 from rfl)]
      exact key
    | some w =>
      have hw := hs.2 w rfl
      rw [if_neg (show ¬ zov (-1) (some w) = -1 from fun z => nI_pos (n := w) (by omega) (by rw [← zov_some (d := -1), z]; decide))]
      exact key
theorem pX7_plainly_2 {c1 c2 c3 : Int32} {cl cp : Nat → Int32} : ∀ (n N i : Nat) (h b : Int32) (dirty line : Nat → Int32), i + n = 16 → n < N → (∀ j, j < i → line j = -1) → ∃ di li, fX7_plainly_2 c1 c2 c3 cl cp N (nI i) h b dirty line = fX7_plainly_40 c1 c2 c3 cl cp zF 0 0 0 di li ∧ ∀ j, j < 16 → li j = -1 := by
  intro n
  induction n with
  | zero =>
    intro N i h b dirty line e hN hi
    obtain ⟨N, rfl⟩ : ∃ k, N = k + 1 := ⟨N - 1, by omega⟩
    rw [fX7_plainly_2, if_pos (n16 (by omega) (by omega))]
    exact ⟨_, _, rfl, fun j hj => hi j (by omega)⟩
  | succ n ih =>
    intro N i h b dirty line e hN hi
    obtain ⟨N, rfl⟩ : ∃ k, N = k + 1 := ⟨N - 1, by omega⟩
    rw [fX7_plainly_2, if_neg (n16' (by omega)), zast_n (by omega) (by omega), zast_n (by omega) (by omega), zlet_e, show nI i + 1 = nI (i + 1) from nI_1 _]
    exact ih N (i + 1) _ _ _ _ (by omega) (by omega) (fun j hj => by
      by_cases c : j = i
      · rw [c, pk_us]
      · rw [pk_un c]; exact hi j (by omega))
end PLAIN3
theorem pX7_plainly {p : zP} {sets ways steps unsures saws hit weighed : Int32} {at' line may memory put saw unsure : Nat → Int32} (hp : zPok p) (hm : zPM p sets ways steps unsures saws hit weighed at' line may memory put saw unsure) {h b : Int32} {pd plz : Nat → Int32} :
    ∃ di li, fX7_plainly h b sets ways steps pd plz line put = some (nI (aRn p (pWy p) true 0).2.2.1, nI (aRn p (pWy p) true 0).2.2.2.2, di, li) := by
  obtain ⟨e1, e2, e3, e4, e5, e6, e7, e8, e9, e10⟩ := hm
  obtain ⟨q1, q2, q3, q4, q5, q6, q7, q8⟩ := hp
  rw [e1, e2, e4]
  unfold fX7_plainly
  obtain ⟨di, li, f1, f2⟩ := pX7_plainly_2 (c1 := nI (pSt p)) (c2 := nI (pWy p)) (c3 := nI (pL p).length) (cl := line) (cp := put) 16 zF 0 h b pd plz (by omega) (zF_gt (by omega)) (fun j hj => by omega)
  rw [show nI 0 = (0 : Int32) from rfl] at f1
  rw [f1]
  have h4 := q1.2
  have hR : zPR (pSt p) (pWy p) (aBeg (uMem 0 0 (pU p) (pM p))) li di := fun s hs => ⟨[], List.Pairwise.nil, fun l => ⟨fun z => (by cases z), fun z => absurd z.2.2 (Nat.lt_irrefl 0)⟩, Nat.zero_le _, fun i l z => by simp at z, fun i _ hi => f2 _ (by omega)⟩
  obtain ⟨di2, li2, g1⟩ := pX7_plain_loop (B := 10000) q1 q2 e9 q3 (pL p) [] zF (aBeg (uMem 0 0 (pU p) (pM p))) 0 0 0 0 di li rfl (zF_gt (by omega)) (aBeg_I (uMem_ok q5 q4) (by decide)) (by show 0 + _ ≤ _; omega) aBeg_T hR
  have ew : (pWg p && !true) = false := by simp
  unfold aRn
  rw [ew]
  exact ⟨di2, li2, g1⟩
/-! ===== how many were used since; tags ===== -/
/-- used since l -/
def aSn (k : zK) (a : zA) (l : Nat) : Nat := ((aCs k a (l % k.1) 99).filter (fun x => decide (aT a l < aT a x))).length
section SINCE
variable {st wy : Nat} {wg pl : Bool} {B : Nat} {a : zA} {used last shape dirty memory words x : Nat → Int32}
theorem pX3_since_loop (hI : zIA B a) (hsw : zSW st wy) (hR : zRS (mkK st wy wg pl) a used last shape dirty memory words) {ss : Int32} {l : Nat} (hl : l < 32) (hu : 0 < aU a l) : ∀ (m N i c : Nat), 32 ≤ i + m → m < N → i ≤ 40 →
    fX3_usedSince_18 ss last used N (nI l) (nI st) (nI c) (nI i) = some (nI (c + (((zlin st m i).filter (aCd a 99)).filter (fun x => decide (aT a l < aT a x))).length)) := by
  have h0 := hsw.1
  have h4 := hsw.2.1
  have hB := hI.2.2.2
  have b1 := (hI.1 l hl).2.2.2.2
  intro m
  induction m with
  | zero =>
    intro N i c h hN hi
    obtain ⟨N, rfl⟩ : ∃ k, N = k + 1 := ⟨N - 1, by omega⟩
    rw [fX3_usedSince_18, if_pos (n32 (by omega) (by omega))]
    simp [zlin]
  | succ m ih =>
    intro N i c h hN hi
    obtain ⟨N, rfl⟩ : ∃ k, N = k + 1 := ⟨N - 1, by omega⟩
    rw [fX3_usedSince_18]
    by_cases hlt : i < 32
    · obtain ⟨u1, -, u2⟩ := hR.1 i hlt
      have b2 := (hI.1 i hlt).2.2.2
      rw [if_neg (n32' hlt), zald_n hlt (by omega), u1]
      unfold zlin
      rw [if_pos hlt, List.filter_cons]
      by_cases hc : aU a i = 0
      · have hz : aCd a 99 i = false := by unfold aCd; simp [hc]
        rw [if_pos ((nI_le0 (by omega)).mpr hc), zlet_e, nI_add, hz, ih N (i + st) c (by omega) (by omega) (by omega)]
        rfl
      · have hz : aCd a 99 i = true := by
          have : ¬ i = 99 := by omega
          unfold aCd; simp [this]; omega
        rw [if_neg (fun z => hc ((nI_le0 (by omega)).mp z)), zald_n hlt (by omega), zald_n hl (by omega), (u2 (by omega)).1, ((hR.1 l hl).2.2 hu).1, hz, if_pos rfl, List.filter_cons]
        by_cases ct : aT a l < aT a i
        · rw [if_neg (nI_ge ct (by omega)), zlet_e, zlet_e, nI_add, show nI c + 1 = nI (c + 1) from nI_1 _, ih N (i + st) (c + 1) (by omega) (by omega) (by omega), decide_eq_true ct, if_pos rfl]
          simp
          congr 1
          omega
        · rw [if_pos (nI_le (by omega) (by omega)), zlet_e, nI_add, ih N (i + st) c (by omega) (by omega) (by omega), decide_eq_false ct]
          simp
    · rw [if_pos (n32 (by omega) (by omega))]
      unfold zlin
      rw [if_neg hlt]
      simp
theorem pX3_usedSince (hI : zIA B a) (hsw : zSW st wy) (hR : zRS (mkK st wy wg pl) a used last shape dirty memory words) {l : Nat} (hl : l < 32) (hu : 0 < aU a l) : fX3_usedSince (nI st) last used (nI l) = some (nI (aSn (mkK st wy wg pl) a l)) := by
  unfold fX3_usedSince
  rw [pX3_stride hsw.1 hsw.2.1, zlet_e, pX3_setOf hsw.1 hsw.2.1 hl, Option.bind_some]
  have hm := Nat.mod_lt l hsw.1
  have h4 := hsw.2.1
  have := pX3_since_loop (ss := nI st) hI hsw hR hl hu 32 zF (l % st) 0 (by omega) (zF_gt (by omega)) (by omega)
  rw [Nat.zero_add] at this
  exact this
/-- in a list sorted by last use, as many are behind as were used since -/
theorem zSo_since {P R : List Nat} {l : Nat} (h : zSo a (P ++ l :: R)) : ((P ++ l :: R).filter (fun x => decide (aT a l < aT a x))).length = R.length := by
  have hp := List.pairwise_append.mp h.1
  have hc := List.pairwise_cons.mp hp.2.1
  rw [List.filter_append, List.filter_cons]
  have e1 : P.filter (fun x => decide (aT a l < aT a x)) = [] := List.filter_eq_nil_iff.mpr (fun x hx => by
    have := hp.2.2 x hx l (by simp)
    simp; omega)
  have e2 : R.filter (fun x => decide (aT a l < aT a x)) = R := List.filter_eq_self.mpr (fun x hx => by
    have := hc.1 x hx
    simp; omega)
  rw [e1, e2]
  simp
theorem pX7_since_loop {od : Nat → Int32} {cs : Int32} {P R : List Nat} {l : Nat} (hod : zOL od (P ++ l :: R)) (hn : (P ++ l :: R).Nodup) (hb : ∀ q ∈ P ++ l :: R, q < 32) (hlen : (P ++ l :: R).length ≤ 32) : ∀ (n N i : Nat), i + n = P.length → n < N →
    fX7_since_11 cs x N (nI l) (nI i) (nI (P ++ l :: R).length) od = some (nI R.length, nI (P ++ l :: R).length, od) := by
  have hlen2 : (P ++ l :: R).length = P.length + R.length + 1 := by simp; omega
  intro n
  induction n with
  | zero =>
    intro N i h hN
    obtain ⟨N, rfl⟩ : ∃ k, N = k + 1 := ⟨N - 1, by omega⟩
    have hi : i = P.length := by omega
    have h1 : od i = nI l := hod i l (by rw [hi]; simp)
    rw [fX7_since_11, zald_n (by omega) (by omega), h1, if_pos rfl, zlet_e, zlet_e, hlen2, show nI (P.length + R.length + 1) - 1 = nI (P.length + R.length) from nI_pred _, pk_sub (by omega), show P.length + R.length - i = R.length by omega]
  | succ n ih =>
    intro N i h hN
    obtain ⟨N, rfl⟩ : ∃ k, N = k + 1 := ⟨N - 1, by omega⟩
    have hi : i < P.length := by omega
    have hx : (P ++ l :: R)[i]? = some P[i] := by
      rw [List.getElem?_append_left hi]
      exact List.getElem?_eq_getElem hi
    have h1 := hod i _ hx
    have hq := hb _ (List.mem_of_getElem? hx)
    have hl := hb l (by simp)
    have hne : ¬ P[i] = l := fun z => (List.nodup_append.mp hn).2.2 P[i] (List.getElem_mem hi) l (by simp) z
    rw [fX7_since_11, zald_n (by omega) (by omega), h1, if_neg (fun z => hne ((nI_eq (by omega) (by omega)).mp z)), zlet_e, show nI i + 1 = nI (i + 1) from nI_1 _]
    exact ih N (i + 1) (by omega) (by omega)
theorem zSo_nodup {L : List Nat} (h : zSo a L) : L.Nodup := h.1.imp (fun h e => by rw [e] at h; exact Nat.lt_irrefl _ h)
theorem aCs_mem (hsw : zSW st wy) {s l : Nat} (hs : s < st) : l ∈ aCs (mkK st wy wg pl) a s 99 ↔ l < 32 ∧ l % st = s ∧ 0 < aU a l := by
  unfold aCs
  rw [List.mem_filter]
  unfold aCd
  constructor
  · intro ⟨c1, c2⟩
    have := (zlin_lt c1).1
    simp at c2
    exact ⟨this, zset_in (st := st) hs c1, c2.1⟩
  · intro ⟨c1, c2, c3⟩
    refine ⟨?_, ?_⟩
    · have := zin_set (st := st) hsw.1 c1
      rw [c2] at this
      exact this
    · have : ¬ l = 99 := by omega
      simp [c3, this]
theorem pX7_since (hI : zIA B a) (hsw : zSW st wy) (hX : zRX a x) {l : Nat} {o : Int32} {od : Nat → Int32} (hl : l < 32) (hu : 0 < aU a l) :
    ∃ o2 od2, fX7_since o (nI st) od x (nI l) = some (nI (aSn (mkK st wy wg false) a l), o2, od2) := by
  have hs : l % st < st := Nat.mod_lt _ hsw.1
  obtain ⟨od2, L2, f1, f2, f3, f4, f5⟩ := pX7_orders (wg := wg) (o := o) (od := od) hI hsw hX hs
  have hm : l ∈ L2 := f4.mem_iff.mpr ((aCs_mem hsw hs).mpr ⟨hl, rfl, hu⟩)
  obtain ⟨P, R, rfl⟩ := List.append_of_mem hm
  unfold fX7_since
  rw [pX7_setOf hsw.1 hsw.2.1 hl, Option.bind_some, f1, Option.bind_some]
  refine ⟨nI (P ++ l :: R).length, od2, (pX7_since_loop f2 (zSo_nodup f3) (fun q hq => (f3.2 q hq).1) f5 P.length zF 0 (by omega) (zF_gt (by simp at f5; omega))).trans ?_⟩
  unfold aSn
  rw [show l % (mkK st wy wg false).1 = l % st from rfl, ← (f4.filter _).length_eq, zSo_since f3]
end SINCE
