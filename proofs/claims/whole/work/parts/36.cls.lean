/-! ===== the class does what the abstract cache does ===== -/
section CLS
variable {k : zK} {a : zA} {B : Nat} {used last shape dirty memory words : Nat → Int32}
def zBut (but : Int32) (bn : Nat) : Prop := ∀ x, x < 32 → (nI x = but ↔ x = bn)
theorem zBut_n {l : Nat} (hl : l < 32) : zBut (nI l) l := fun x hx => nI_eq (by omega) (by omega)
theorem zBut_m : zBut (-1) 99 := fun x hx => ⟨fun h => absurd (show nI x < 0 by rw [h]; decide) (nI_pos (by omega)), fun h => by omega⟩
theorem zBut_2 : zBut (-2) 99 := fun x hx => ⟨fun h => absurd (show nI x < 0 by rw [h]; decide) (nI_pos (by omega)), fun h => by omega⟩
theorem zcs_aCd (hI : zIA B a) (hR : zRS k a used last shape dirty memory words) {but : Int32} {bn : Nat} (hb : zBut but bn) {x : Nat} (hx : x < 32) : zcs used but x = aCd a bn x := by
  have h1 := (hR.1 x hx).1
  have h2 := (hI.1 x hx).2.2.2.1
  have h3 := hI.2.2.2
  unfold zcs aCd
  rw [h1, decide_eq_decide.mpr (nIp (n := aU a x) (by omega)), decide_eq_decide.mpr (hb x hx)]
theorem zfilt {p q : Nat → Bool} {st m s : Nat} (h : ∀ x, x < 32 → p x = q x) : (zlin st m s).filter p = (zlin st m s).filter q := List.filter_congr fun x hx => h x (zlin_lt hx).1
theorem pX3_tags (hI : zIA B a) (hk : zKok k) (hR : zRS k a used last shape dirty memory words) {but : Int32} {bn s : Nat} (hb : zBut but bn) (hs : s < k.1) : fX3_tagsIn (nI k.1) used (nI s) but = some (nI (aTags k a s bn)) := by
  rw [pX3_tagsIn hk.1 hk.2.1 hs, zfilt (fun x hx => zcs_aCd hI hR hb hx)]
  rfl
theorem pX3_segs (hI : zIA B a) (hk : zKok k) (hR : zRS k a used last shape dirty memory words) {but : Int32} {bn s : Nat} (hb : zBut but bn) (hs : s < k.1) : fX3_segmentsIn (nI k.1) shape used (nI s) but = some (nI (aTak k a s bn)) := by
  have hsh : ∀ l, l < 32 → 0 < used l → shape l = nI (kF k (aLw a l)) ∧ kF k (aLw a l) < 8 := fun l hl hu => by
    have h1 := (hR.1 l hl).1
    have h2 := (hI.1 l hl).2.2.2.1
    have h3 := hI.2.2.2
    rw [h1] at hu
    exact ⟨((hR.1 l hl).2.2 ((nIp (by omega)).mp hu)).2, kF_lt _ _⟩
  rw [pX3_segmentsIn hk.1 hk.2.1 hs hsh, zfilt (fun x hx => zcs_aCd hI hR hb hx)]
  rfl
theorem pX3_nextVictim_loop (hI : zIA B a) (hk : zKok k) (hR : zRS k a used last shape dirty memory words) {ss but : Int32} {bn : Nat} (hb : zBut but bn) : ∀ (m N l : Nat) (bo : Option Nat), 32 ≤ l + m → m < N → l ≤ 40 → (∀ b, bo = some b → b < 32 ∧ 0 < aU a b) → fX3_nextVictim_11 ss (nI (zbn k.2.2.2.1)) last shape used N but (nI k.1) (zov (-1) bo) (nI l) = some (zov (-1) (zvf (aAh k a) bo ((zlin k.1 m l).filter (aCd a bn)))) := by
  have hk1 := hk.1
  have hk2 := hk.2.1
  intro m
  induction m with
  | zero =>
    intro N l bo h hN hl hbo
    obtain ⟨N, rfl⟩ : ∃ k, N = k + 1 := ⟨N - 1, by omega⟩
    rw [fX3_nextVictim_11, if_pos (n32 (by omega) (by omega))]
    simp [zlin, zvf]
  | succ m ih =>
    intro N l bo h hN hl hbo
    obtain ⟨N, rfl⟩ : ∃ k, N = k + 1 := ⟨N - 1, by omega⟩
    rw [fX3_nextVictim_11]
    by_cases hlt : l < 32
    · have h1 := (hR.1 l hlt).1
      have h2 := (hI.1 l hlt).2.2.2.1
      have h3 := hI.2.2.2
      rw [if_neg (n32' hlt), zald_n hlt (by omega), h1]
      unfold zlin
      rw [if_pos hlt, List.filter_cons]
      by_cases hu : aU a l = 0
      · have hz : aCd a bn l = false := by unfold aCd; simp [hu]
        rw [if_pos ((nI_le0 (by omega)).mpr hu), zlet_e, nI_add, ih N (l + k.1) bo (by omega) (by omega) (by omega) hbo, hz]
        simp
      · have hu' : 0 < aU a l := by omega
        rw [if_neg (fun z => hu ((nI_le0 (by omega)).mp z))]
        by_cases hbb : nI l = but
        · have hz : aCd a bn l = false := by unfold aCd; simp [(hb l hlt).mp hbb]
          rw [if_pos hbb, zlet_e, nI_add, ih N (l + k.1) bo (by omega) (by omega) (by omega) hbo, hz]
          simp
        · have hz : aCd a bn l = true := by unfold aCd; simp [hu', fun z => hbb ((hb l hlt).mpr z)]
          rw [if_neg hbb, hz, if_pos rfl]
          cases bo with
          | none =>
            rw [if_pos (show zov (-1) none < 0 by decide), zlet_e, nI_add, show nI l = zov (-1) (some l) from rfl, ih N (l + k.1) (some l) (by omega) (by omega) (by omega) (fun b hb => by cases hb; exact ⟨hlt, hu'⟩)]
            rfl
          | some b =>
            obtain ⟨b1, b2⟩ := hbo b rfl
            rw [if_neg (show ¬ zov (-1) (some b) < 0 from nI_pos (by omega)), show zov (-1) (some b) = nI b from rfl, pX3_goesAhead hI hR hlt b1 hu' b2, Option.bind_some]
            cases hah : aAh k a l b with
            | false =>
              rw [if_pos (show zbi false = 0 from rfl), zlet_e, nI_add, show nI b = zov (-1) (some b) from rfl, ih N (l + k.1) (some b) (by omega) (by omega) (by omega) hbo]
              unfold zvf
              rw [hah]
              rfl
            | true =>
              rw [if_neg (show ¬ zbi true = 0 by decide), zlet_e, nI_add, show nI l = zov (-1) (some l) from rfl, ih N (l + k.1) (some l) (by omega) (by omega) (by omega) (fun b hb => by cases hb; exact ⟨hlt, hu'⟩)]
              rw [show zvf (aAh k a) (some b) (l :: (zlin k.1 m (l + k.1)).filter (aCd a bn)) = zvf (aAh k a) (some (if aAh k a l b then l else b)) ((zlin k.1 m (l + k.1)).filter (aCd a bn)) from rfl, hah]
              rfl
    · rw [if_pos (n32 (by omega) (by omega))]
      unfold zlin
      rw [if_neg hlt]
      simp [zvf]
theorem pX3_victim (hI : zIA B a) (hk : zKok k) (hR : zRS k a used last shape dirty memory words) {but : Int32} {bn s : Nat} (hb : zBut but bn) (hs : s < k.1) : fX3_nextVictim (nI k.1) (nI (zbn k.2.2.2.1)) last shape used (nI s) but = some (zov (-1) (aVic k a s bn)) := by
  unfold fX3_nextVictim
  have hk2 := hk.2.1
  rw [pX3_stride hk.1 hk.2.1, Option.bind_some]
  exact pX3_nextVictim_loop hI hk hR hb 32 zF s none (by omega) (zF_gt (by omega)) (by omega) (fun b h => nomatch h)
/-- the victim is a cached line of the set, not the one -/
theorem zvf_in {ah : Nat → Nat → Bool} : ∀ {L : List Nat} {bo : Option Nat} {v : Nat}, zvf ah bo L = some v → bo = some v ∨ v ∈ L
  | [], bo, v, h => Or.inl (by cases bo <;> simpa [zvf] using h)
  | l :: L, none, v, h => by
    rcases zvf_in (show zvf ah (some l) L = some v from h) with h | h
    · cases h; exact Or.inr List.mem_cons_self
    · exact Or.inr (List.mem_cons_of_mem _ h)
  | l :: L, some b, v, h => by
    rcases zvf_in (show zvf ah (some (if ah l b then l else b)) L = some v from h) with h | h
    · have h := Option.some.inj h
      by_cases c : ah l b = true
      · rw [if_pos c] at h; subst h; exact Or.inr List.mem_cons_self
      · rw [if_neg c] at h; subst h; exact Or.inl rfl
    · exact Or.inr (List.mem_cons_of_mem _ h)
theorem zvf_none {ah : Nat → Nat → Bool} : ∀ {L : List Nat} {bo : Option Nat}, zvf ah bo L = none → bo = none ∧ L = []
  | [], bo, h => ⟨by cases bo <;> simpa [zvf] using h, rfl⟩
  | l :: L, none, h => by
    have := (zvf_none (show zvf ah (some l) L = none from h)).1
    cases this
  | l :: L, some b, h => by
    have := (zvf_none (show zvf ah (some (if ah l b then l else b)) L = none from h)).1
    cases this
theorem aVic_in {s bn v : Nat} (h : aVic k a s bn = some v) : v < 32 ∧ 0 < aU a v ∧ v ≠ bn ∧ v ∈ aCs k a s bn := by
  rcases zvf_in h with h | h
  · cases h
  · have h1 := List.mem_filter.mp h
    have h2 := (zlin_lt h1.1).1
    unfold aCd at h1
    simp at h1
    exact ⟨h2, h1.2.1, h1.2.2, h⟩
end CLS
