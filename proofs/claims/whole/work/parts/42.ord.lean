/-! ===== the model's order of a set's lines ===== -/
section ORD
variable {B : Nat} {a : zA} {x : Nat → Int32}
/-- the order array begins with the list L -/
def zOL (od : Nat → Int32) (L : List Nat) : Prop := ∀ (i : Nat) (l : Nat), L[i]? = some l → od i = nI l
/-- L has cached lines, sorted by when they were last used -/
def zSo (a : zA) (L : List Nat) : Prop := L.Pairwise (fun p q => aT a p < aT a q) ∧ ∀ l ∈ L, l < 32 ∧ 0 < aU a l
/-- put l in its place -/
def zins (a : zA) (l : Nat) : List Nat → List Nat
  | [] => [l]
  | p :: L => if aT a l < aT a p then l :: p :: L else p :: zins a l L
theorem zins_perm (a : zA) (l : Nat) : ∀ L, (zins a l L).Perm (l :: L)
  | [] => List.Perm.refl _
  | p :: L => by
    unfold zins
    split
    · exact List.Perm.refl _
    · exact (List.Perm.cons p (zins_perm a l L)).trans (List.Perm.swap l p L)
/-- the sliding: places P ++ S, with room at P ++ [_] ++ S -/
theorem pX7_slide (hI : zIA B a) (hX : zRX a x) {cs l : Nat} {K : Int32 → Int32 → (Nat → Int32) → Option (Int32 × (Nat → Int32))} (hl : l < 32) (hu : 0 < aU a l) : ∀ (P : List Nat) (N : Nat) (S : List Nat) (od : Nat → Int32), zSo a (P ++ S) → l ∉ P ++ S → P.length + S.length < 32 → P.length < N →
    (∀ (i p : Nat), P[i]? = some p → od i = nI p) → (∀ (i p : Nat), S[i]? = some p → od (P.length + 1 + i) = nI p) → (∀ p, S.head? = some p → aT a l < aT a p) →
    ∃ od2, fX7_orders_29 (nI cs) x K N (nI l) (nI P.length) (nI (P.length + S.length)) od = K (nI l + nI cs) (nI (P.length + S.length + 1)) od2 ∧ zOL od2 (zins a l (P ++ S)) := by
  intro P
  induction hP : P.length generalizing P with
  | zero =>
    intro N S od hso hnl hlen hN h1 h2 h3
    have : P = [] := List.length_eq_zero_iff.mp hP
    subst this
    obtain ⟨N, rfl⟩ : ∃ k, N = k + 1 := ⟨N - 1, by omega⟩
    rw [fX7_orders_29, if_pos (show nI 0 ≤ (0 : Int32) from Int32.le_refl _)]
    unfold fX7_orders_83
    rw [zast_n (by omega) (by omega), zlet_e, zlet_e, show nI (0 + S.length) + 1 = nI (0 + S.length + 1) from nI_1 _]
    refine ⟨_, rfl, ?_⟩
    have e : zins a l ([] ++ S) = l :: S := by
      cases S with
      | nil => rfl
      | cons p S =>
        show (if aT a l < aT a p then l :: p :: S else p :: zins a l S) = _
        rw [if_pos (h3 p rfl)]
    rw [e]
    intro i p hp
    cases i with
    | zero => cases hp; exact pk_us
    | succ i =>
      rw [pk_un (by omega)]
      have := h2 i p (by simpa using hp)
      rw [show 0 + 1 + i = i + 1 by omega] at this
      exact this
  | succ n ih =>
    intro N S od hso hnl hlen hN h1 h2 h3
    obtain ⟨P', q, rfl⟩ : ∃ P' q, P = P' ++ [q] := by
      rcases List.eq_nil_or_concat P with h | ⟨P', q, h⟩
      · rw [h] at hP; simp at hP
      · exact ⟨P', q, by simpa using h⟩
    have hn : P'.length = n := by simpa using hP
    obtain ⟨N, rfl⟩ : ∃ k, N = k + 1 := ⟨N - 1, by omega⟩
    have hq : od n = nI q := h1 n q (by rw [← hn]; simp)
    have hqm : q ∈ P' ++ [q] ++ S := by simp
    obtain ⟨q1, q2⟩ := hso.2 q hqm
    obtain ⟨x1, -, x2⟩ := hX.1 q q1
    obtain ⟨y1, -, y2⟩ := hX.1 l hl
    have hb1 := (hI.1 q q1).2.2.2.2
    have hb2 := (hI.1 l hl).2.2.2.2
    have hB := hI.2.2.2
    have hpred : nI (n + 1) - 1 = nI n := nI_pred n
    rw [fX7_orders_29, if_neg (show ¬ nI (n + 1) ≤ (0 : Int32) from nI_nle (by omega) (by omega)), zlet_e, hpred, zald_n (by omega) (by omega), hq, zlet_e, show (544 : Int32) + nI q = nI (544 + q) from nI_add 544 q, zald_n (by omega) (by omega), zlet_e, show (544 : Int32) + nI l = nI (544 + l) from nI_add 544 l, zald_n (by omega) (by omega), (x2 q2).1, (y2 hu).1]
    by_cases c : aT a q ≤ aT a l
    · rw [if_pos (nI_le c (by omega))]
      unfold fX7_orders_83
      rw [zast_n (by omega) (by omega), zlet_e, zlet_e, show nI (n + 1 + S.length) + 1 = nI (n + 1 + S.length + 1) from nI_1 _]
      refine ⟨_, rfl, ?_⟩
      have hne : aT a q < aT a l := by
        rcases Nat.lt_or_eq_of_le c with h | h
        · exact h
        · have := hI.2.1 q l q1 hl q2 hu h
          exact absurd (by rw [← this]; exact hqm) hnl
      have hpw : ∀ p ∈ P' ++ [q], aT a p ≤ aT a l := by
        intro p hp
        rcases List.mem_append.mp hp with h | h
        · have hpp : (P' ++ ([q] ++ S)).Pairwise (fun p q => aT a p < aT a q) := by rw [← List.append_assoc]; exact hso.1
          have := (List.pairwise_append.mp hpp).2.2 p h q (by simp)
          omega
        · rw [List.mem_singleton.mp h]; omega
      have e : ∀ (Q : List Nat), (∀ p ∈ Q, aT a p ≤ aT a l) → zins a l (Q ++ S) = Q ++ l :: S := by
        intro Q
        induction Q with
        | nil =>
          intro _
          cases S with
          | nil => rfl
          | cons p S =>
            show (if aT a l < aT a p then l :: p :: S else p :: zins a l S) = _
            rw [if_pos (h3 p rfl)]; rfl
        | cons z Q ihQ =>
          intro hz
          have hz1 := hz z List.mem_cons_self
          show (if aT a l < aT a z then l :: z :: (Q ++ S) else z :: zins a l (Q ++ S)) = _
          rw [if_neg (by omega), ihQ (fun p hp => hz p (List.mem_cons_of_mem _ hp))]
          rfl
      rw [e (P' ++ [q]) hpw]
      intro i p hp
      have hlP : (P' ++ [q]).length = n + 1 := by simp [hn]
      by_cases ci : i < n + 1
      · rw [List.getElem?_append_left (by omega)] at hp
        rw [pk_un (by omega)]
        exact h1 i p hp
      · rw [List.getElem?_append_right (by omega), hlP] at hp
        by_cases ci2 : i = n + 1
        · rw [ci2, Nat.sub_self] at hp
          cases hp
          rw [ci2, pk_us]
        · rw [pk_un ci2]
          obtain ⟨d, rfl⟩ : ∃ d, i = n + 1 + 1 + d := ⟨i - (n + 2), by omega⟩
          rw [show n + 1 + 1 + d - (n + 1) = d + 1 by omega] at hp
          exact h2 d p (by simpa using hp)
    · rw [if_neg (nI_ge (by omega) (by omega)), zlet_e, zald_n (by omega) (by omega), hq, zast_n (by omega) (by omega), zlet_e, show nI (n + 1) + (-1) = nI n from pk_m1 n]
      have hS : P'.length + (q :: S).length = n + 1 + S.length := by simp [hn]; omega
      obtain ⟨od2, e1, e2⟩ := ih P' hn N (q :: S) (upd od (n + 1) (nI q)) (by simpa using hso) (by simpa using hnl) (by simp; omega) (by omega) (fun i p hp => by
          have hi : i < P'.length := (List.getElem?_eq_some_iff.mp hp).1
          rw [pk_un (by omega)]
          exact h1 i p (by rw [List.getElem?_append_left hi]; exact hp)) (fun i p hp => by
          cases i with
          | zero => cases hp; rw [show n + 1 + 0 = n + 1 by omega, pk_us]
          | succ i =>
            rw [pk_un (by omega)]
            have := h2 i p (by simpa using hp)
            rw [show n + 1 + (i + 1) = n + 1 + 1 + i by omega]
            exact this) (fun p hp => by cases hp; omega)
      rw [show n + (q :: S).length = n + 1 + S.length by simp; omega] at e1
      exact ⟨od2, e1, by simpa using e2⟩
end ORD
