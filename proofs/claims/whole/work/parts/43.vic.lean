/-! ===== the model's victim ===== -/
section VIC
variable {st wy : Nat} {wg : Bool} {B : Nat} {a : zA} {x : Nat → Int32}
theorem zins_mem (a : zA) {l q : Nat} {L : List Nat} : q ∈ zins a l L ↔ q = l ∨ q ∈ L := by
  rw [(zins_perm a l L).mem_iff, List.mem_cons]
theorem zins_so (hI : zIA B a) {l : Nat} (hl : l < 32) (hu : 0 < aU a l) : ∀ {L : List Nat}, zSo a L → l ∉ L → zSo a (zins a l L)
  | [], _, _ => ⟨List.pairwise_singleton _ _, fun q hq => by rw [List.mem_singleton.mp hq]; exact ⟨hl, hu⟩⟩
  | p :: L, h, hn => by
    refine ⟨?_, fun q hq => ?_⟩
    · unfold zins
      have hp := List.pairwise_cons.mp h.1
      split
      · rename_i c
        refine List.pairwise_cons.mpr ⟨fun q hq => ?_, h.1⟩
        rcases List.mem_cons.mp hq with e | e
        · rw [e]; exact c
        · exact Nat.lt_trans c (hp.1 q e)
      · rename_i c
        refine List.pairwise_cons.mpr ⟨fun q hq => ?_, (zins_so hI hl hu ⟨hp.2, fun q hq => h.2 q (List.mem_cons_of_mem _ hq)⟩ (fun z => hn (List.mem_cons_of_mem _ z))).1⟩
        rcases (zins_mem a).mp hq with e | e
        · have hpl := h.2 p List.mem_cons_self
          rw [e]
          rcases Nat.lt_or_eq_of_le (Nat.le_of_not_lt c) with g | g
          · exact g
          · exact absurd (hI.2.1 p l hpl.1 hl hpl.2 hu g) (fun z => hn (by rw [z]; exact List.mem_cons_self))
        · exact hp.1 q e
    · rcases (zins_mem a).mp hq with e | e
      · rw [e]; exact ⟨hl, hu⟩
      · exact h.2 q e
theorem pX7_orders_loop (hI : zIA B a) (hsw : zSW st wy) (hX : zRX a x) : ∀ (m N l : Nat) (L : List Nat) (od : Nat → Int32), 32 ≤ l + m → m < N → l ≤ 40 → zSo a L → (∀ p ∈ L, p < l) → L.length ≤ l → L.length ≤ 32 → zOL od L →
    ∃ od2 L2, fX7_orders_7 (nI st) x N (nI l) (nI L.length) od = some (nI L2.length, od2) ∧ zOL od2 L2 ∧ zSo a L2 ∧ L2.Perm ((zlin st m l).filter (aCd a 99) ++ L) ∧ L2.length ≤ 32 := by
  have h0 := hsw.1
  have h4 := hsw.2.1
  intro m
  induction m with
  | zero =>
    intro N l L od h hN hl hso hlt hle hle2 hod
    obtain ⟨N, rfl⟩ : ∃ k, N = k + 1 := ⟨N - 1, by omega⟩
    rw [fX7_orders_7, if_pos (n32 (by omega) (by omega))]
    exact ⟨od, L, rfl, hod, hso, by simp [zlin], hle2⟩
  | succ m ih =>
    intro N l L od h hN hl hso hlt hle hle2 hod
    obtain ⟨N, rfl⟩ : ∃ k, N = k + 1 := ⟨N - 1, by omega⟩
    rw [fX7_orders_7]
    by_cases c : l < 32
    · have h1 := (hX.1 l c).1
      have h2 := (hI.1 l c).2.2.2.1
      have h3 := hI.2.2.2
      rw [if_neg (n32' c), pX7_isCachedNow c, Option.bind_some, h1]
      unfold zlin
      rw [if_pos c, List.filter_cons]
      by_cases hc : aU a l = 0
      · have hz : aCd a 99 l = false := by unfold aCd; simp [hc]
        rw [if_pos ((nI_le0 (by omega)).mpr hc), if_pos rfl, zlet_e, nI_add, hz]
        exact ih N (l + st) L od (by omega) (by omega) (by omega) hso (fun p hp => by have := hlt p hp; omega) (by omega) hle2 hod
      · have hz : aCd a 99 l = true := by
          have : ¬ l = 99 := by omega
          unfold aCd; simp [this]; omega
        have hnl : l ∉ L := fun z => Nat.lt_irrefl _ (hlt l z)
        rw [if_neg (fun z => hc ((nI_le0 (by omega)).mp z)), if_neg (by decide), hz]
        obtain ⟨od1, e1, e2⟩ := pX7_slide (K := fX7_orders_7 (nI st) x N) (cs := st) hI hX c (by omega) L zF [] od (by simpa using hso) (by simpa using hnl) (by simp; omega) (zF_gt (by omega)) (fun i p hp => hod i p hp) (fun i p hp => by simp at hp) (fun p hp => by cases hp)
        rw [show L.length + ([] : List Nat).length = L.length from rfl] at e1
        have hlen : (zins a l L).length = L.length + 1 := by rw [(zins_perm a l L).length_eq]; rfl
        rw [List.append_nil] at e2
        rw [e1, nI_add, ← hlen]
        obtain ⟨od2, L2, f1, f2, f3, f4, f5⟩ := ih N (l + st) (zins a l L) od1 (by omega) (by omega) (by omega) (zins_so hI c (by omega) hso hnl) (fun p hp => by
          rcases (zins_mem a).mp hp with e | e
          · omega
          · have := hlt p e; omega) (by omega) (by omega) e2
        refine ⟨od2, L2, f1, f2, f3, f4.trans ?_, f5⟩
        rw [if_pos rfl]
        exact ((List.Perm.append_left _ (zins_perm a l L)).trans List.perm_middle)
    · rw [if_pos (n32 (by omega) (by omega))]
      unfold zlin
      rw [if_neg c]
      exact ⟨od, L, rfl, hod, hso, by simp, hle2⟩
theorem pX7_orders (hI : zIA B a) (hsw : zSW st wy) (hX : zRX a x) {s : Nat} {o : Int32} {od : Nat → Int32} (hs : s < st) :
    ∃ od2 L2, fX7_orders o (nI st) od x (nI s) = some (nI L2.length, od2) ∧ zOL od2 L2 ∧ zSo a L2 ∧ L2.Perm (aCs (mkK st wy wg false) a s 99) ∧ L2.length ≤ 32 := by
  have h4 := hsw.2.1
  obtain ⟨od2, L2, f1, f2, f3, f4, f5⟩ := pX7_orders_loop (wy := wy) hI hsw hX 32 zF s [] od (by omega) (zF_gt (by omega)) (by omega) ⟨List.Pairwise.nil, fun _ h => by cases h⟩ (fun _ h => by cases h) (by simp) (by simp) (fun i l h => by simp at h)
  rw [List.append_nil] at f4
  exact ⟨od2, L2, f1, f2, f3, f4, f5⟩
/-- one number that says who goes ahead -/
def aKy (k : zK) (a : zA) (l : Nat) : Nat := (if k.2.2.2.1 then aU a l * (12 / aS k a l) else 0) * 1000000 + aT a l
theorem aAh_ky {k : zK} (hI : zIA B a) {l m : Nat} (hl : l < 32) (hm : m < 32) : aAh k a l m = decide (aKy k a l < aKy k a m) := by
  have t1 := (hI.1 l hl).2.2.2
  have t2 := (hI.1 m hm).2.2.2
  have t3 := hI.2.2.2
  unfold aAh aKy
  cases k.2.2.2.1 with
  | false => rw [if_neg (by decide), if_neg (by decide), if_neg (by decide)]; exact decide_eq_decide.mpr (by omega)
  | true =>
    rw [if_pos rfl, if_pos rfl, if_pos rfl]
    have g1 := aS_le k a l
    have g2 := aS_le k a m
    generalize aS k a l = s1 at *
    generalize aS k a m = s2 at *
    generalize aU a l = u1 at *
    generalize aU a m = u2 at *
    obtain ⟨g1, g1'⟩ := g1
    obtain ⟨g2, g2'⟩ := g2
    have c1 : s1 = 1 ∨ s1 = 2 ∨ s1 = 3 ∨ s1 = 4 := by omega
    have c2 : s2 = 1 ∨ s2 = 2 ∨ s2 = 3 ∨ s2 = 4 := by omega
    rcases c1 with rfl | rfl | rfl | rfl <;> rcases c2 with rfl | rfl | rfl | rfl <;> (split <;> exact decide_eq_decide.mpr (by omega))
theorem aKy_inj {k : zK} (hI : zIA B a) {l m : Nat} (hl : l < 32) (hm : m < 32) (ul : 0 < aU a l) (um : 0 < aU a m) (h : aKy k a l = aKy k a m) : l = m := by
  have t1 := (hI.1 l hl).2.2.2
  have t2 := (hI.1 m hm).2.2.2
  have t3 := hI.2.2.2
  unfold aKy at h
  exact hI.2.1 l m hl hm ul um (by omega)
/-- who goes ahead of all has the least number -/
theorem zvf_min {k : zK} (hI : zIA B a) : ∀ {L : List Nat} {bo : Option Nat} {v : Nat}, (∀ q ∈ L, q < 32) → (∀ b, bo = some b → b < 32) → zvf (aAh k a) bo L = some v → (∀ q ∈ L, aKy k a v ≤ aKy k a q) ∧ ∀ b, bo = some b → aKy k a v ≤ aKy k a b
  | [], bo, v, _, _, h => by
    have h : bo = some v := by cases bo <;> exact h
    exact ⟨fun _ z => (by cases z), fun b hb => by rw [h] at hb; cases hb; exact Nat.le_refl _⟩
  | l :: L, none, v, h1, _, h => by
    obtain ⟨g1, g2⟩ := zvf_min hI (bo := some l) (fun q hq => h1 q (List.mem_cons_of_mem _ hq)) (fun b hb => by cases hb; exact h1 l List.mem_cons_self) h
    exact ⟨fun q hq => by
      rcases List.mem_cons.mp hq with e | e
      · rw [e]; exact g2 l rfl
      · exact g1 q e, fun b hb => by cases hb⟩
  | l :: L, some b, v, h1, h2, h => by
    have hl := h1 l List.mem_cons_self
    have hb := h2 b rfl
    obtain ⟨g1, g2⟩ := zvf_min hI (bo := some (if aAh k a l b then l else b)) (fun q hq => h1 q (List.mem_cons_of_mem _ hq)) (fun c hc => by cases hc; split <;> assumption) h
    have g3 := g2 _ rfl
    rw [aAh_ky hI hl hb] at g3
    have g4 : aKy k a v ≤ aKy k a l ∧ aKy k a v ≤ aKy k a b := by
      by_cases c : aKy k a l < aKy k a b
      · rw [decide_eq_true c, if_pos rfl] at g3; omega
      · rw [decide_eq_false c, if_neg (by decide)] at g3; omega
    exact ⟨fun q hq => by
      rcases List.mem_cons.mp hq with e | e
      · rw [e]; exact g4.1
      · exact g1 q e, fun c hc => by cases hc; exact g4.2⟩
theorem zvf_perm {k : zK} (hI : zIA B a) {L L2 : List Nat} (h : ∀ q, q ∈ L ↔ q ∈ L2) (hc : ∀ q ∈ L, q < 32 ∧ 0 < aU a q) : zvf (aAh k a) none L = zvf (aAh k a) none L2 := by
  cases e1 : zvf (aAh k a) none L with
  | none =>
    have := (zvf_none e1).2
    have h2 : L2 = [] := List.eq_nil_iff_forall_not_mem.mpr (fun q hq => by have := (h q).mpr hq; rw [(zvf_none e1).2] at this; cases this)
    rw [h2]; rfl
  | some v =>
    have hv : v ∈ L := by
      rcases zvf_in e1 with e | e
      · cases e
      · exact e
    cases e2 : zvf (aAh k a) none L2 with
    | none =>
      have := (h v).mp hv
      rw [(zvf_none e2).2] at this; cases this
    | some w =>
      have hw : w ∈ L2 := by
        rcases zvf_in e2 with e | e
        · cases e
        · exact e
      have m1 := (zvf_min hI (fun q hq => (hc q hq).1) (fun _ z => by cases z) e1).1 w ((h w).mpr hw)
      have m2 := (zvf_min hI (fun q hq => (hc q ((h q).mpr hq)).1) (fun _ z => by cases z) e2).1 v ((h v).mp hv)
      have c1 := hc v hv
      have c2 := hc w ((h w).mpr hw)
      rw [aKy_inj hI c1.1 c2.1 c1.2 c2.2 (Nat.le_antisymm m1 m2)]
end VIC
