/-! ===== the plain cache: a use ===== -/
section PLAIN2
variable {st wy : Nat} {B : Nat} {a : zA}
/-- the row anew: l ahead, then A -/
theorem zPQ_new {s l d : Nat} {a1 a3 : zA} {li di : Nat → Int32} {A : List Nat} (hl : l < 32) (hls : l % st = s) (p1 : A.Pairwise (fun p q => aT a1 q < aT a1 p)) (p2 : ∀ x, x ∈ A ↔ x < 32 ∧ x % st = s ∧ 0 < aU a1 x ∧ ¬ x = l) (p3 : A.length + 1 ≤ wy) (p4 : ∀ x, ¬ x = l → aU a3 x = aU a1 x ∧ aT a3 x = aT a1 x ∧ aD a3 x = aD a1 x) (p5 : 0 < aU a3 l) (p6 : ∀ x, x < 32 → aT a1 x < aT a3 l) (p7 : aD a3 l = d) (p8 : li (4 * s) = nI l ∧ di (4 * s) = nI d) (p9 : ∀ i x, A[i]? = some x → li (4 * s + 1 + i) = nI x ∧ di (4 * s + 1 + i) = nI (aD a1 x)) (p10 : ∀ i, A.length + 1 ≤ i → i < wy → li (4 * s + i) = -1) : zPQ st wy s a3 li di (l :: A) := by
  refine ⟨List.pairwise_cons.mpr ⟨fun x hx => ?_, ?_⟩, fun x => ?_, by simpa using p3, fun i x hx => ?_, fun i hi hi2 => p10 i (by simpa using hi) hi2⟩
  · have := (p2 x).mp hx
    rw [(p4 x this.2.2.2).2.1]
    exact p6 x this.1
  · refine p1.imp_of_mem (fun {p q} hp hq hlt => ?_)
    rw [(p4 p ((p2 p).mp hp).2.2.2).2.1, (p4 q ((p2 q).mp hq).2.2.2).2.1]
    exact hlt
  · rw [List.mem_cons]
    constructor
    · intro h
      rcases h with rfl | h
      · exact ⟨hl, hls, p5⟩
      · have := (p2 x).mp h
        exact ⟨this.1, this.2.1, by rw [(p4 x this.2.2.2).1]; exact this.2.2.1⟩
    · intro ⟨c1, c2, c3⟩
      by_cases e : x = l
      · exact Or.inl e
      · exact Or.inr ((p2 x).mpr ⟨c1, c2, by rw [(p4 x e).1] at c3; exact c3, e⟩)
  · cases i with
    | zero => cases hx; rw [p7]; exact p8
    | succ i =>
      have hx' : A[i]? = some x := by simpa using hx
      have hm : x ∈ A := List.mem_of_getElem? hx'
      rw [(p4 x ((p2 x).mp hm).2.2.2).2.2, show 4 * s + (i + 1) = 4 * s + 1 + i by omega]
      exact p9 i x hx'
/-- a use, once the room is made -/
def aPl (a1 : zA) (sp : Nat) (wo : Option Nat) : zA := match wo with | none => aTk a1 (sp / 8) | some w => aPut (aTk a1 (sp / 8)) sp w
theorem aPl_x {a1 : zA} {sp : Nat} {wo : Option Nat} (x : Nat) : aU (aPl a1 sp wo) x = nup (aU a1) (sp / 8) (aU a1 (sp / 8) + 1) x ∧ aT (aPl a1 sp wo) x = nup (aT a1) (sp / 8) (aC a1 + 1) x ∧ aD (aPl a1 sp wo) x = if x = sp / 8 then (if wo.isSome then 1 else aD a1 (sp / 8)) else aD a1 x := by
  cases wo with
  | none =>
    refine ⟨rfl, rfl, ?_⟩
    show aD a1 x = _
    by_cases c : x = sp / 8
    · rw [if_pos c, c]; rfl
    · rw [if_neg c]
  | some w =>
    refine ⟨rfl, rfl, ?_⟩
    show nup (aD a1) (sp / 8) 1 x = _
    unfold nup
    by_cases c : x = sp / 8
    · rw [if_pos c, if_pos c]; rfl
    · rw [if_neg c, if_neg c]
theorem aUse_pl (hsw : zSW st wy) {sp v b : Nat} {wo : Option Nat} (hs : sp < 256) (hT : zIT (mkK st wy false true) a) : (aUse (mkK st wy false true) a sp wo v b).1 = aPl (aMiss (mkK st wy false true) a (sp / 8) v b).1 sp wo ∧ (aUse (mkK st wy false true) a sp wo v b).2 = (aMiss (mkK st wy false true) a (sp / 8) v b).2 := by
  have hl : sp / 8 < 32 := by omega
  have hk : zKok (mkK st wy false true) := mkK_ok hsw
  cases wo with
  | none => exact ⟨rfl, rfl⟩
  | some w =>
    have h1 := aMiss_T (v := v) (b := b) hk hl hT
    generalize hA : aMiss (mkK st wy false true) a (sp / 8) v b = M at h1
    have hu : 0 < aU (aTk M.1 (sp / 8)) (sp / 8) := by
      show 0 < nup _ _ _ _
      unfold nup
      rw [if_pos rfl]
      omega
    have h2 : zIT (mkK st wy false true) (aPut (aTk M.1 (sp / 8)) sp w) := aPut_T h1
    have h3 := h2 ((sp / 8) % st) (Nat.mod_lt _ hsw.1)
    have h4 := aTags_in (k := mkK st wy false true) (a := aPut (aTk M.1 (sp / 8)) sp w) hsw.1 hl hu
    have h5 : aTags (mkK st wy false true) (aPut (aTk M.1 (sp / 8)) sp w) ((sp / 8) % st) (sp / 8) < wy := by
      have h3' : aTags (mkK st wy false true) (aPut (aTk M.1 (sp / 8)) sp w) ((sp / 8) % st) 99 ≤ wy := h3
      have h4' : aTags (mkK st wy false true) (aPut (aTk M.1 (sp / 8)) sp w) ((sp / 8) % st) 99 = aTags (mkK st wy false true) (aPut (aTk M.1 (sp / 8)) sp w) ((sp / 8) % st) (sp / 8) + 1 := h4
      omega
    have h6 : aUse (mkK st wy false true) a sp (some w) v b = aMr (mkK st wy false true) ((sp / 8) % st) (sp / 8) 4 32 (aPut (aTk M.1 (sp / 8)) sp w) M.2.1 M.2.2 := by
      unfold aUse
      rw [hA]
      rfl
    rw [h6, aMr_pl_room h5]
    exact ⟨rfl, rfl⟩
theorem pX7_plainUse (hsw : zSW st wy) {line dirty : Nat → Int32} (hI : zIA B a) (hC : aC a + 1 ≤ B) (hT : zIT (mkK st wy false true) a) (hR : zPR st wy a line dirty) {sp v b h : Nat} {wo : Option Nat} (hs : sp < 256) :
    ∃ di li, fX7_plainUse (nI h) (nI b) (nI st) (nI wy) dirty line (nI (sp / 8)) (nI (zbn wo.isSome)) = some (nI (h + zbn (decide (0 < aU a (sp / 8)))), nI (aUse (mkK st wy false true) a sp wo v b).2.2, di, li) ∧ zPR st wy (aUse (mkK st wy false true) a sp wo v b).1 li di := by
  have hl : sp / 8 < 32 := by omega
  have hsl : (sp / 8) % st < st := Nat.mod_lt _ hsw.1
  have h4 := hsw.2
  have hB := hI.2.2.2
  obtain ⟨u1, u2⟩ := aUse_pl (v := v) (b := b) (wo := wo) hsw hs hT
  rw [u1, u2]
  generalize hle : sp / 8 = l at *
  generalize hse : l % st = s at *
  obtain ⟨Q, hQ⟩ := hR s hsl
  obtain ⟨hQp, hQl⟩ := zPQ_len hsw hsl hQ
  obtain ⟨q1, q2, q3, q4, q5⟩ := hQ
  have nd : Q.Nodup := q1.imp (fun h e => by rw [e] at h; exact Nat.lt_irrefl _ h)
  -- the rows of the other sets, and of this one
  have fin : ∀ (a1 : zA) (A : List Nat) (di li : Nat → Int32), A.Pairwise (fun p q => aT a1 q < aT a1 p) → (∀ x, x ∈ A ↔ x < 32 ∧ x % st = s ∧ 0 < aU a1 x ∧ ¬ x = l) → A.length + 1 ≤ wy → (∀ x, ¬ x % st = s → aU a1 x = aU a x ∧ aT a1 x = aT a x ∧ aD a1 x = aD a x) → (∀ x, x < 32 → aT a1 x ≤ aC a1) → li (4 * s) = nI l → di (4 * s) = nI (if wo.isSome then 1 else aD a1 l) → (∀ i x, A[i]? = some x → li (4 * s + 1 + i) = nI x ∧ di (4 * s + 1 + i) = nI (aD a1 x)) → (∀ i, A.length + 1 ≤ i → i < wy → li (4 * s + i) = -1) → (∀ j, j < 4 * s ∨ 4 * s + 3 < j → li j = line j ∧ di j = dirty j) → zPR st wy (aPl a1 sp wo) li di := by
    intro a1 A di li p1 p2 p3 po pt pl1 pl2 p9 p10 pj
    have px := fun x => aPl_x (a1 := a1) (sp := sp) (wo := wo) x
    rw [hle] at px
    intro s2 hs2
    by_cases e : s2 = s
    · rw [e]
      refine ⟨l :: A, zPQ_new (d := if wo.isSome then 1 else aD a1 l) hl hse p1 p2 p3 (fun x hx => ?_) ?_ (fun x hx => ?_) ?_ ⟨pl1, pl2⟩ p9 p10⟩
      · obtain ⟨e1, e2, e3⟩ := px x
        rw [e1, e2, e3]
        unfold nup
        rw [if_neg hx, if_neg hx, if_neg hx]
        exact ⟨rfl, rfl, rfl⟩
      · rw [(px l).1]
        unfold nup
        rw [if_pos rfl]
        omega
      · rw [(px l).2.1]
        unfold nup
        rw [if_pos rfl]
        have := pt x hx
        omega
      · rw [(px l).2.2, if_pos rfl]
    · obtain ⟨Q2, hQ2⟩ := hR s2 hs2
      refine ⟨Q2, zPQ_other h4.2.2 hQ2 (fun x hx => ?_) (fun i hi => pj _ (by omega))⟩
      have hxl : ¬ x = l := fun z => e (by rw [← hx, z, hse])
      obtain ⟨e1, e2, e3⟩ := px x
      obtain ⟨o1, o2, o3⟩ := po x (by rw [hx]; exact e)
      rw [e1, e2, e3]
      unfold nup
      rw [if_neg hxl, if_neg hxl, if_neg hxl]
      exact ⟨o1, o2, o3⟩
  have hTx : ∀ x, x < 32 → aT a x ≤ aC a := fun x hx => (hI.1 x hx).2.2.2.2
  unfold fX7_plainUse fX7_plainAt
  rw [pX7_setOf hsw.1 hsw.2.1 hl, Option.bind_some, zlet_e, hse, show (4 : Int32) * nI s = nI (4 * s) from pk_mul 4 s]
  by_cases c : 0 < aU a l
  · -- a hit
    have hm : l ∈ Q := (q2 l).mpr ⟨hl, hse, c⟩
    obtain ⟨A, A2, rfl⟩ := List.append_of_mem hm
    have hA : l ∉ A := fun z => by
      have := (List.nodup_append.mp nd).2.2 l z l (by simp)
      exact this rfl
    have hlen : (A ++ l :: A2).length = A.length + A2.length + 1 := by simp; omega
    have g1 : line (4 * s + A.length) = nI l ∧ dirty (4 * s + A.length) = nI (aD a l) := q4 A.length l (by simp)
    have g2 : ∀ i, i < A.length → ¬ line (4 * s + i) = nI l := fun i hi z => by
      have hx : (A ++ l :: A2)[i]? = some A[i] := by
        rw [List.getElem?_append_left hi]
        exact List.getElem?_eq_getElem hi
      have hx2 := (q4 i _ hx).1
      have hlt : A[i] < 32 := ((q2 A[i]).mp (List.mem_of_getElem? hx)).1
      rw [z] at hx2
      have := (nI_eq (by omega) (by omega)).mp hx2
      exact hA (by rw [this]; exact List.getElem_mem hi)
    have at1 : fX7_plainAt_2 (nI st) (nI wy) line zF (nI l) (nI 0) = some (nI A.length) := pX7_plainAt_hit hsw hl (by omega) (by rw [hse]; exact g1.1) A.length zF 0 (by omega) (zF_gt (by omega)) (by rw [hse]; exact g2)
    rw [show (0 : Int32) = nI 0 from rfl, at1, Option.bind_some, if_neg (nI_ge (by omega) (by omega))]
    unfold fX7_plainUse_32
    rw [if_neg (show ¬ (1 : Int32) = 0 by decide)]
    unfold fX7_plainUse_42 fX7_plainUse_86
    rw [zlet_e, nI_add, zald_n (by omega) (by omega), if_neg (show ¬ (1 : Int32) = 0 by decide), if_neg (show ¬ (1 : Int32) = 0 by decide), zlet_e, show nI h + 1 = nI (h + 1) from nI_1 _]
    obtain ⟨di, li, f1, f2, f3, f4, f5, f6, f7⟩ := pX7_shift (c1 := nI st) (c2 := nI wy) (b6 := dirty (4 * s + A.length)) (ph := nI (h + 1)) (pb := nI b) (l := l) (fr := 4 * s) (w := wo.isSome) (h := true) A.length zF line dirty (by omega) (zF_gt (by omega)) (by omega)
    have hmiss : aMiss (mkK st wy false true) a l v b = (a, v, b) := by unfold aMiss; rw [if_pos c]
    rw [hmiss, decide_eq_true c]
    refine ⟨di, li, f1, fin a (A ++ A2) di li ?_ (fun x => ?_) (by rw [List.length_append]; omega) (fun x _ => ⟨rfl, rfl, rfl⟩) hTx f2 ?_ (fun i x hx => ?_) (fun i hi hi2 => ?_) (fun j hj => ⟨f4 j (by omega), f7 j (by omega)⟩)⟩
    · exact q1.sublist (by simp)
    · have := q2 x
      constructor
      · intro hx
        have hx2 : x ∈ A ++ l :: A2 := by
          rcases List.mem_append.mp hx with z | z
          · simp [z]
          · simp [z]
        have hx3 := this.mp hx2
        refine ⟨hx3.1, hx3.2.1, hx3.2.2, fun e => ?_⟩
        rw [e] at hx
        rcases List.mem_append.mp hx with z | z
        · exact hA z
        · have := (List.nodup_cons.mp (List.nodup_append.mp nd).2.1).1
          exact this z
      · intro ⟨c1, c2, c3, c4⟩
        have hx2 := this.mpr ⟨c1, c2, c3⟩
        simp at hx2
        rcases hx2 with z | z | z
        · simp [z]
        · exact absurd z c4
        · simp [z]
    · rw [f5, g1.2]
      have hd := (hI.1 l hl).1
      cases wo with
      | some w => rfl
      | none =>
        rcases (show aD a l = 0 ∨ aD a l = 1 by omega) with z | z <;> rw [z] <;> rfl
    · by_cases ci : i < A.length
      · rw [List.getElem?_append_left ci] at hx
        have hx2 : (A ++ l :: A2)[i]? = some x := by rw [List.getElem?_append_left ci]; exact hx
        have hd := (hI.1 x ((q2 x).mp (List.mem_of_getElem? hx2)).1).1
        rw [f3 i ci, f6 i ci, (q4 i x hx2).1, (q4 i x hx2).2]
        exact ⟨rfl, vpb hd⟩
      · rw [List.getElem?_append_right (by omega)] at hx
        have hi2 : i - A.length < A2.length := (List.getElem?_eq_some_iff.mp hx).1
        have hx2 : (A ++ l :: A2)[i + 1]? = some x := by
          rw [List.getElem?_append_right (by omega), show i + 1 - A.length = (i - A.length) + 1 by omega]
          simpa using hx
        rw [f4 _ (by omega), f7 _ (by omega), show 4 * s + 1 + i = 4 * s + (i + 1) by omega]
        exact q4 (i + 1) x hx2
    · rw [List.length_append] at hi
      rw [f4 _ (by omega)]
      exact q5 i (by omega) hi2
  · -- a miss
    have hu0 : aU a l = 0 := by omega
    have hd0 : aD a l = 0 := (hI.1 l hl).2.1 hu0
    have hnm : l ∉ Q := fun z => c ((q2 l).mp z).2.2
    have g2 : ∀ i, i < wy → ¬ line (4 * s + i) = nI l := fun i hi z => by
      by_cases ci : i < Q.length
      · have hx : Q[i]? = some Q[i] := List.getElem?_eq_getElem ci
        have hlt : Q[i] < 32 := ((q2 Q[i]).mp (List.mem_of_getElem? hx)).1
        have hx2 := (q4 i _ hx).1
        rw [z] at hx2
        have := (nI_eq (by omega) (by omega)).mp hx2
        exact hnm (by rw [this]; exact List.getElem_mem ci)
      · rw [q5 i (by omega) hi] at z
        exact nI_pos (n := l) (by omega) (by rw [← z]; decide)
    have at1 : fX7_plainAt_2 (nI st) (nI wy) line zF (nI l) (nI 0) = some (nI wy) := pX7_plainAt_miss hsw hl (by rw [hse]; exact g2) wy zF 0 (by omega) (zF_gt (by omega))
    obtain ⟨w1, hw1⟩ : ∃ w1, wy = w1 + 1 := ⟨wy - 1, by omega⟩
    rw [show (0 : Int32) = nI 0 from rfl, at1, Option.bind_some, if_pos (Int32.le_refl _)]
    unfold fX7_plainUse_32
    rw [if_pos (show nI 0 = (0 : Int32) from rfl), zlet_e, show nI wy + (-1) = nI w1 by rw [hw1]; exact pk_m1 w1]
    unfold fX7_plainUse_42 fX7_plainUse_86
    rw [zlet_e, nI_add, zald_n (by omega) (by omega), if_pos (show nI 0 = (0 : Int32) from rfl), zlet_e, zald_n (by omega) (by omega)]
    simp only [if_pos (show nI 0 = (0 : Int32) from rfl)]
    have sh : ∀ pb : Int32, _ := fun pb => pX7_shift (c1 := nI st) (c2 := nI wy) (b6 := dirty (4 * s + w1)) (ph := nI h) (pb := pb) (l := l) (fr := 4 * s) (w := wo.isSome) (h := false) w1 zF line dirty (by omega) (zF_gt (by omega)) (by omega)
    have ht : aTags (mkK st wy false true) a s l = Q.length := by
      rw [hQl]
      unfold aTags
      rw [aCs_99 hu0]
    have hz : zbn (decide (0 < aU a l)) = 0 := by rw [decide_eq_false c]; rfl
    rw [hz]
    by_cases cf : Q.length < wy
    · -- room
      have hmiss : aMiss (mkK st wy false true) a l v b = (a, v, b) := by
        unfold aMiss
        rw [if_neg c, show l % (mkK st wy false true).1 = s from hse, aS_pl]
        exact aMr_pl_room (by rw [ht]; exact cf)
      rw [if_pos (show line (4 * s + w1) = -1 from q5 w1 (by omega) (by omega)), hmiss]
      obtain ⟨di, li, f1, f2, f3, f4, f5, f6, f7⟩ := sh (nI b)
      refine ⟨di, li, f1, fin a Q di li q1 (fun x => ?_) (by omega) (fun x _ => ⟨rfl, rfl, rfl⟩) hTx f2 ?_ (fun i x hx => ?_) (fun i hi hi2 => ?_) (fun j hj => ⟨f4 j (by omega), f7 j (by omega)⟩)⟩
      · rw [q2 x]
        constructor
        · intro ⟨c1, c2, c3⟩
          exact ⟨c1, c2, c3, fun e => by rw [e] at c3; omega⟩
        · intro ⟨c1, c2, c3, _⟩
          exact ⟨c1, c2, c3⟩
      · rw [f5, hd0]
        cases wo <;> rfl
      · have hi : i < Q.length := (List.getElem?_eq_some_iff.mp hx).1
        have hd := (hI.1 x ((q2 x).mp (List.mem_of_getElem? hx)).1).1
        rw [f3 i (by omega), f6 i (by omega), (q4 i x hx).1, (q4 i x hx).2]
        exact ⟨rfl, vpb hd⟩
      · rw [show 4 * s + i = 4 * s + 1 + (i - 1) by omega, f3 (i - 1) (by omega)]
        exact q5 (i - 1) (by omega) (by omega)
    · -- the one used longest ago goes
      obtain ⟨A, q, rfl⟩ : ∃ A q, Q = A ++ [q] := by
        rcases List.eq_nil_or_concat Q with z | ⟨A, q, z⟩
        · rw [z] at cf; simp at cf; omega
        · exact ⟨A, q, by simpa using z⟩
      have hlen : (A ++ [q]).length = A.length + 1 := by simp
      have hq := (q2 q).mp (by simp)
      have hqd := (hI.1 q hq.1).1
      have hA : ∀ x ∈ A, aT a q < aT a x := fun x hx => (List.pairwise_append.mp q1).2.2 x hx q (by simp)
      have hqA : q ∉ A := fun z => Nat.lt_irrefl _ (hA q z)
      have hql : ¬ q = l := fun z => by rw [z] at hq; omega
      have gl := q4 A.length q (by simp)
      have hvic : aVic (mkK st wy false true) a s l = some q := by
        have hmem : ∀ x, x ∈ aCs (mkK st wy false true) a s l ↔ x ∈ A ++ [q] := fun x => by
          rw [← aCs_99 hu0]
          exact hQp.mem_iff.symm
        cases e : aVic (mkK st wy false true) a s l with
        | none =>
          have := (zvf_none e).2
          have hh := (hmem q).mpr (by simp)
          rw [this] at hh
          cases hh
        | some y =>
          have hy := (hmem y).mp (aVic_in e).2.2.2
          have hmin := (zvf_min hI (fun x hx => ((q2 x).mp ((hmem x).mp hx)).1) (fun _ z => by cases z) e).1 q ((hmem q).mpr (by simp))
          have hmin2 : aT a y ≤ aT a q := by
            unfold aKy at hmin
            have hf : ¬ (mkK st wy false true).2.2.2.1 = true := fun z => Bool.noConfusion (show false = true from z)
            rw [if_neg hf, if_neg hf] at hmin
            omega
          rcases List.mem_append.mp hy with z | z
          · have := hA y z
            omega
          · rw [List.mem_singleton.mp z]
      have hfu : ∀ x, aU (aFg a q) x = if x = q then 0 else aU a x := fun x => rfl
      have hfd : ∀ x, aD (aFg a q) x = if x = q then 0 else aD a x := fun x => aWb_Dx hI hq.1 x
      have hft : ∀ x, aT (aFg a q) x = aT a x := fun x => by rw [aFg_T]
      have hmiss : aMiss (mkK st wy false true) a l v b = (aFg a q, v + 1, b + aD a q) := by
        unfold aMiss
        rw [if_neg c, show l % (mkK st wy false true).1 = s from hse, aS_pl]
        refine aMr_pl_full (by rw [ht]; exact cf) hvic ?_
        have := aTags_fg_lt (k := mkK st wy false true) (a := a) (s := s) (bn := l) (q := q) (aVic_in hvic).2.2.2
        rw [ht] at this
        omega
      have hwA : w1 = A.length := by omega
      rw [if_neg (show ¬ line (4 * s + w1) = -1 by rw [hwA, gl.1]; exact fun z => nI_pos (n := q) (by omega) (by rw [z]; decide)), hmiss]
      have key : ∀ pb : Int32, pb = nI (b + aD a q) → ∃ di li, fX7_plainUse_105 (nI st) (nI wy) zF (nI l) (nI (zbn wo.isSome)) (nI (4 * s)) (nI 0) (dirty (4 * s + w1)) (nI w1) (nI h) pb dirty line = some (nI (h + 0), nI (aFg a q, v + 1, b + aD a q).2.2, di, li) ∧ zPR st wy (aPl (aFg a q, v + 1, b + aD a q).1 sp wo) li di := by
        intro pb hpb
        obtain ⟨di, li, f1, f2, f3, f4, f5, f6, f7⟩ := sh pb
        rw [hpb] at f1
        rw [hpb]
        refine ⟨di, li, f1, fin (aFg a q) A di li ?_ (fun x => ?_) (by omega) (fun x hx => ?_) (fun x hx => by rw [hft, aFg_C]; exact hTx x hx) f2 ?_ (fun i x hx => ?_) (fun i hi hi2 => by omega) (fun j hj => ⟨f4 j (by omega), f7 j (by omega)⟩)⟩
        · refine ((List.pairwise_append.mp q1).1).imp (fun {x y} hxy => ?_)
          rw [hft, hft]
          exact hxy
        · rw [hfu]
          have := q2 x
          constructor
          · intro hx
            have hx3 := this.mp (by simp [hx])
            have hxq : ¬ x = q := fun e => hqA (by rw [← e]; exact hx)
            rw [if_neg hxq]
            exact ⟨hx3.1, hx3.2.1, hx3.2.2, fun e => by rw [e] at hx3; omega⟩
          · intro ⟨c1, c2, c3, c4⟩
            by_cases e : x = q
            · rw [if_pos e] at c3; omega
            · rw [if_neg e] at c3
              have hx2 := this.mpr ⟨c1, c2, c3⟩
              simp [e] at hx2
              exact hx2
        · have e : ¬ x = q := fun z => hx (by rw [z]; exact hq.2.1)
          rw [hfu, hfd, hft, if_neg e, if_neg e]
          exact ⟨rfl, rfl, rfl⟩
        · rw [f5, hfd l, if_neg (show ¬ l = q from fun z => hql z.symm), hd0]
          cases wo <;> rfl
        · have hi : i < A.length := (List.getElem?_eq_some_iff.mp hx).1
          have hxm : x ∈ A := List.mem_of_getElem? hx
          have hxq : ¬ x = q := fun e => hqA (by rw [← e]; exact hxm)
          have hx2 : (A ++ [q])[i]? = some x := by rw [List.getElem?_append_left hi]; exact hx
          have hd := (hI.1 x ((q2 x).mp (List.mem_of_getElem? hx2)).1).1
          rw [f3 i (by omega), f6 i (by omega), (q4 i x hx2).1, (q4 i x hx2).2, hfd, if_neg hxq]
          exact ⟨rfl, vpb hd⟩
      rw [hwA, gl.2, ← hwA]
      rw [hwA, gl.2, ← hwA] at key
      rcases (show aD a q = 0 ∨ aD a q = 1 by omega) with z | z
      · rw [if_pos (by rw [z]; rfl)]
        exact key (nI b) (by rw [z, Nat.add_zero])
      · rw [if_neg (by rw [z]; decide), zlet_e, show nI b + 1 = nI (b + 1) from nI_1 _]
        exact key (nI (b + 1)) (by rw [z])
end PLAIN2
