/-! ===== the class does what the abstract cache does ===== -/
section CLS
variable {k : zK} {a : zA} {B : Nat} {used last shape dirty memory words : Nat → Int32}
def zBut (but : Int32) (bn : Nat) : Prop := ∀ x, x < 32 → (nI x = but ↔ x = bn)
theorem zBut_n {l : Nat} (hl : l < 32) : zBut (nI l) l := fun x hx => nI_eq (by omega) (by omega)
theorem zBut_m : zBut (-1) 99 := fun x hx => ⟨fun h => absurd (show nI x < 0 by rw [h]; decide) (nI_pos (by omega)), fun h => by omega⟩
theorem zBut_2 : zBut (-2) 99 := fun x hx => ⟨fun h => absurd (show nI x < 0 by rw [h]; decide) (nI_pos (by omega)), fun h => by omega⟩
theorem zcs_aCd (hI : zIA B a) (hR : zRS k a used last shape dirty memory words) {but : Int32} {bn : Nat} (hb : zBut but bn) {x : Nat} (hx : x < 32) : zcs used but x = aCd a bn x := by
  have h1 := (hR.1 x hx).1
  have h2 := (hI.1 x hx).2.2.2.1
  have h3 := hI.2.2.2
  unfold zcs aCd
  rw [h1, decide_eq_decide.mpr (nIp (n := aU a x) (by omega)), decide_eq_decide.mpr (hb x hx)]
theorem zfilt {p q : Nat → Bool} {st m s : Nat} (h : ∀ x, x < 32 → p x = q x) : (zlin st m s).filter p = (zlin st m s).filter q := List.filter_congr fun x hx => h x (zlin_lt hx).1
theorem pX3_tags (hI : zIA B a) (hk : zKok k) (hR : zRS k a used last shape dirty memory words) {but : Int32} {bn s : Nat} (hb : zBut but bn) (hs : s < k.1) : fX3_tagsIn (nI k.1) used (nI s) but = some (nI (aTags k a s bn)) := by
  rw [pX3_tagsIn hk.1 hk.2.1 hs, zfilt (fun x hx => zcs_aCd hI hR hb hx)]
  rfl
theorem pX3_segs (hI : zIA B a) (hk : zKok k) (hR : zRS k a used last shape dirty memory words) {but : Int32} {bn s : Nat} (hb : zBut but bn) (hs : s < k.1) : fX3_segmentsIn (nI k.1) shape used (nI s) but = some (nI (aTak k a s bn)) := by
  have hsh : ∀ l, l < 32 → 0 < used l → shape l = nI (kF k (aLw a l)) ∧ kF k (aLw a l) < 8 := fun l hl hu => by
    have h1 := (hR.1 l hl).1
    have h2 := (hI.1 l hl).2.2.2.1
    have h3 := hI.2.2.2
    rw [h1] at hu
    exact ⟨((hR.1 l hl).2.2 ((nIp (by omega)).mp hu)).2, kF_lt _ _⟩
  rw [pX3_segmentsIn hk.1 hk.2.1 hs hsh, zfilt (fun x hx => zcs_aCd hI hR hb hx)]
  rfl
theorem pX3_nextVictim_loop (hI : zIA B a) (hk : zKok k) (hR : zRS k a used last shape dirty memory words) {ss but : Int32} {bn : Nat} (hb : zBut but bn) : ∀ (m N l : Nat) (bo : Option Nat), 32 ≤ l + m → m < N → l ≤ 40 → (∀ b, bo = some b → b < 32 ∧ 0 < aU a b) → fX3_nextVictim_15 ss (nI (zbn k.2.2.2.1)) last shape used N but (nI k.1) (zov (-1) bo) (nI l) = some (zov (-1) (zvf (aAh k a) bo ((zlin k.1 m l).filter (aCd a bn)))) := by
  have hk1 := hk.1
  have hk2 := hk.2.1
  intro m
  induction m with
  | zero =>
    intro N l bo h hN hl hbo
    obtain ⟨N, rfl⟩ : ∃ k, N = k + 1 := ⟨N - 1, by omega⟩
    rw [fX3_nextVictim_15, if_pos (n32 (by omega) (by omega))]
    simp [zlin, zvf]
  | succ m ih =>
    intro N l bo h hN hl hbo
    obtain ⟨N, rfl⟩ : ∃ k, N = k + 1 := ⟨N - 1, by omega⟩
    rw [fX3_nextVictim_15]
    by_cases hlt : l < 32
    · have h1 := (hR.1 l hlt).1
      have h2 := (hI.1 l hlt).2.2.2.1
      have h3 := hI.2.2.2
      rw [if_neg (n32' hlt), zald_n hlt (by omega), h1]
      unfold zlin
      rw [if_pos hlt, List.filter_cons]
      by_cases hu : aU a l = 0
      · have hz : aCd a bn l = false := by unfold aCd; simp [hu]
        rw [if_pos ((nI_le0 (by omega)).mpr hu), zlet_e, nI_add, ih N (l + k.1) bo (by omega) (by omega) (by omega) hbo, hz]
        simp
      · have hu' : 0 < aU a l := by omega
        rw [if_neg (fun z => hu ((nI_le0 (by omega)).mp z))]
        by_cases hbb : nI l = but
        · have hz : aCd a bn l = false := by unfold aCd; simp [(hb l hlt).mp hbb]
          rw [if_pos hbb, zlet_e, nI_add, ih N (l + k.1) bo (by omega) (by omega) (by omega) hbo, hz]
          simp
        · have hlb : ¬ l = bn := fun z => hbb ((hb l hlt).mpr z)
          have hz : aCd a bn l = true := by unfold aCd; simp [hu', hlb]
          rw [if_neg hbb, hz, if_pos rfl]
          cases bo with
          | none =>
            rw [if_pos (show zov (-1) none < 0 by decide), zlet_e, nI_add, show nI l = zov (-1) (some l) from rfl, ih N (l + k.1) (some l) (by omega) (by omega) (by omega) (fun b hb => by cases hb; exact ⟨hlt, hu'⟩)]
            rfl
          | some b =>
            obtain ⟨b1, b2⟩ := hbo b rfl
            rw [if_neg (show ¬ zov (-1) (some b) < 0 from nI_pos (by omega)), show zov (-1) (some b) = nI b from rfl, pX3_goesAhead hI hR hlt b1 hu' b2, Option.bind_some]
            cases hah : aAh k a l b with
            | false =>
              rw [if_pos (show zbi false = 0 from rfl), zlet_e, nI_add, show nI b = zov (-1) (some b) from rfl, ih N (l + k.1) (some b) (by omega) (by omega) (by omega) hbo]
              rw [show zvf (aAh k a) (some b) (l :: (zlin k.1 m (l + k.1)).filter (aCd a bn)) = zvf (aAh k a) (some (if aAh k a l b then l else b)) ((zlin k.1 m (l + k.1)).filter (aCd a bn)) from rfl, hah]
              rfl
            | true =>
              rw [if_neg (show ¬ zbi true = 0 by decide), zlet_e, nI_add, show nI l = zov (-1) (some l) from rfl, ih N (l + k.1) (some l) (by omega) (by omega) (by omega) (fun b hb => by cases hb; exact ⟨hlt, hu'⟩)]
              rw [show zvf (aAh k a) (some b) (l :: (zlin k.1 m (l + k.1)).filter (aCd a bn)) = zvf (aAh k a) (some (if aAh k a l b then l else b)) ((zlin k.1 m (l + k.1)).filter (aCd a bn)) from rfl, hah]
              rfl
    · rw [if_pos (n32 (by omega) (by omega))]
      unfold zlin
      rw [if_neg hlt]
      simp [zvf]
theorem pX3_victim (hI : zIA B a) (hk : zKok k) (hR : zRS k a used last shape dirty memory words) {but : Int32} {bn s : Nat} (hb : zBut but bn) (hs : s < k.1) : fX3_nextVictim (nI k.1) (nI (zbn k.2.2.2.1)) last shape used (nI s) but = some (zov (-1) (aVic k a s bn)) := by
  unfold fX3_nextVictim
  have hk2 := hk.2.1
  rw [pX3_stride hk.1 hk.2.1, zlet_e]
  exact pX3_nextVictim_loop hI hk hR hb 32 zF s none (by omega) (zF_gt (by omega)) (by omega) (fun b h => nomatch h)
/-- the victim is a cached line of the set, not the one -/
theorem zvf_in {ah : Nat → Nat → Bool} : ∀ {L : List Nat} {bo : Option Nat} {v : Nat}, zvf ah bo L = some v → bo = some v ∨ v ∈ L
  | [], bo, v, h => Or.inl (by cases bo <;> simpa [zvf] using h)
  | l :: L, none, v, h => by
    rcases zvf_in (show zvf ah (some l) L = some v from h) with h | h
    · cases h; exact Or.inr List.mem_cons_self
    · exact Or.inr (List.mem_cons_of_mem _ h)
  | l :: L, some b, v, h => by
    rcases zvf_in (show zvf ah (some (if ah l b then l else b)) L = some v from h) with h | h
    · have h := Option.some.inj h
      by_cases c : ah l b = true
      · rw [if_pos c] at h; subst h; exact Or.inr List.mem_cons_self
      · rw [if_neg c] at h; subst h; exact Or.inl rfl
    · exact Or.inr (List.mem_cons_of_mem _ h)
theorem zvf_none {ah : Nat → Nat → Bool} : ∀ {L : List Nat} {bo : Option Nat}, zvf ah bo L = none → bo = none ∧ L = []
  | [], bo, h => ⟨by cases bo <;> simpa [zvf] using h, rfl⟩
  | l :: L, none, h => by
    have := (zvf_none (show zvf ah (some l) L = none from h)).1
    cases this
  | l :: L, some b, h => by
    have := (zvf_none (show zvf ah (some (if ah l b then l else b)) L = none from h)).1
    cases this
theorem aVic_in {s bn v : Nat} (h : aVic k a s bn = some v) : v < 32 ∧ 0 < aU a v ∧ v ≠ bn ∧ v ∈ aCs k a s bn := by
  rcases zvf_in h with h | h
  · cases h
  · have h1 := List.mem_filter.mp h
    have h2 := (zlin_lt h1.1).1
    unfold aCd at h1
    simp at h1
    exact ⟨h2, h1.2.1, h1.2.2, h⟩
theorem aWb_U (l : Nat) : aU (aWb a l) = aU a := by unfold aWb; split <;> rfl
theorem aWb_T (l : Nat) : aT (aWb a l) = aT a := by unfold aWb; split <;> rfl
theorem aWb_W (l : Nat) : aW (aWb a l) = aW a := by unfold aWb; split <;> rfl
theorem aWb_C (l : Nat) : aC (aWb a l) = aC a := by unfold aWb; split <;> rfl
theorem aWb_D (hI : zIA B a) {l : Nat} (hl : l < 32) : aD (aWb a l) = nup (aD a) l 0 ∨ (aD a l = 0 ∧ aWb a l = a) := by
  unfold aWb
  by_cases c : aD a l = 1
  · rw [if_pos c]; exact Or.inl rfl
  · rw [if_neg c]; exact Or.inr ⟨by have := (hI.1 l hl).1; omega, rfl⟩
theorem pX3_writeBack (hI : zIA B a) (hR : zRS k a used last shape dirty memory words) {l b : Nat} (hl : l < 32) : ∃ d m, fX3_writeBack (nI b) dirty memory words (nI l) = some (nI (b + aD a l), d, m) ∧ zRS k (aWb a l) used last shape d m words := by
  have h1 := (hR.1 l hl).2.1
  have h2 := (hI.1 l hl).1
  unfold fX3_writeBack
  rw [zald_n hl (by omega), h1]
  by_cases c : aD a l = 1
  · rw [if_pos (by rw [c]; rfl), zlet_e, zlet_e, show (8 : Int32) = nI 8 from rfl, pk_mul, zcpy_n (by omega) (by omega) (by omega) (by omega), zast_n hl (by omega), zlet_e]
    refine ⟨_, _, by rw [c, show nI b + 1 = nI (b + 1) from nI_1 b], ?_⟩
    have e : aWb a l = (aU a, aT a, nup (aD a) l 0, (fun j => if l * 8 ≤ j ∧ j < l * 8 + 8 then aW a j else aM a j), aW a, aC a) := by unfold aWb; rw [if_pos c]
    rw [e]
    refine ⟨fun x hx => ⟨(hR.1 x hx).1, ?_, (hR.1 x hx).2.2⟩, fun j hj => ⟨?_, (hR.2 j hj).2⟩⟩
    · show upd dirty l 0 x = nI (nup (aD a) l 0 x)
      unfold upd nup
      by_cases cx : x = l
      · rw [if_pos cx, if_pos cx]; rfl
      · rw [if_neg cx, if_neg cx]; exact (hR.1 x hx).2.1
    · show va_cpy words memory (l * 8) (l * 8) 8 j = if l * 8 ≤ j ∧ j < l * 8 + 8 then aW a j else aM a j
      unfold va_cpy
      by_cases cj : l * 8 ≤ j ∧ j < l * 8 + 8
      · rw [if_pos cj, if_pos cj, show l * 8 + (j - l * 8) = j by omega]; exact (hR.2 j hj).2
      · rw [if_neg cj, if_neg cj]; exact (hR.2 j hj).1
  · rw [if_neg (show ¬ nI (aD a l) = (1 : Int32) from nIe (b := 1) (by omega) (by omega) c)]
    refine ⟨dirty, memory, by rw [show aD a l = 0 by omega]; rfl, ?_⟩
    have e : aWb a l = a := by unfold aWb; rw [if_neg c]
    rw [e]; exact hR
theorem pX3_forgetLine (hI : zIA B a) (hR : zRS k a used last shape dirty memory words) {l b : Nat} (hl : l < 32) : ∃ d m u, fX3_forgetLine (nI b) dirty memory used words (nI l) = some (nI (b + aD a l), d, m, u) ∧ zRS k (aFg a l) u last shape d m words := by
  obtain ⟨d, m, h1, h2⟩ := pX3_writeBack (b := b) hI hR hl
  unfold fX3_forgetLine
  rw [h1, Option.bind_some, zast_n hl (by omega)]
  refine ⟨d, m, _, rfl, ?_⟩
  have eL : ∀ x, aLw (aFg a l) x = aLw (aWb a l) x := fun x => rfl
  refine ⟨fun x hx => ?_, h2.2⟩
  obtain ⟨g1, g2, g3⟩ := h2.1 x hx
  rw [aWb_U, aWb_T] at g3
  rw [aWb_U] at g1
  show upd used l 0 x = nI (nup (aU a) l 0 x) ∧ d x = nI (aD (aWb a l) x) ∧ (0 < nup (aU a) l 0 x → last x = nI (aT (aWb a l) x) ∧ shape x = nI (kF k (aLw (aWb a l) x)))
  unfold upd nup
  by_cases cx : x = l
  · rw [if_pos cx, if_pos cx]
    exact ⟨rfl, g2, fun z => absurd z (by omega)⟩
  · rw [if_neg cx, if_neg cx, aWb_T]
    exact ⟨g1, g2, g3⟩
end CLS
