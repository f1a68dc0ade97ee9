/-! ===== acts: what they do; the class performs them ===== -/
theorem nI_any (x : Int32) : ∃ n, x = nI n := ⟨x.toBitVec.toNat, by
  apply Int32.toBitVec_inj.1
  show x.toBitVec = BitVec.ofNat 32 x.toBitVec.toNat
  simp⟩
theorem aMr_vb {k : zK} {s l need : Nat} : ∀ (n : Nat) (a : zA) (v b v' b' : Nat), (aMr k s l need n a v b).1 = (aMr k s l need n a v' b').1
  | 0, a, v, b, v', b' => rfl
  | n + 1, a, v, b, v', b' => by
    unfold aMr
    by_cases c : aTags k a s l < k.2.1 ∧ aTak k a s l + need ≤ k.2.2.1
    · rw [if_pos c, if_pos c]
    · rw [if_neg c, if_neg c]
      cases aVic k a s l with
      | none => rfl
      | some q => exact aMr_vb n (aFg a q) _ _ _ _
theorem aUse_vb {k : zK} {a : zA} {sp : Nat} {wo : Option Nat} (v b v' b' : Nat) : (aUse k a sp wo v b).1 = (aUse k a sp wo v' b').1 := by
  have h : (aMiss k a (sp / 8) v b).1 = (aMiss k a (sp / 8) v' b').1 := by
    unfold aMiss
    split
    · rfl
    · exact aMr_vb _ _ _ _ _ _
  cases wo with
  | none =>
    show aTk (aMiss k a (sp / 8) v b).1 (sp / 8) = aTk (aMiss k a (sp / 8) v' b').1 (sp / 8)
    rw [h]
  | some w =>
    show (aMr k _ _ _ 32 (aPut (aTk (aMiss k a (sp / 8) v b).1 (sp / 8)) sp w) _ _).1 = (aMr k _ _ _ 32 (aPut (aTk (aMiss k a (sp / 8) v' b').1 (sp / 8)) sp w) _ _).1
    rw [h]
    exact aMr_vb _ _ _ _ _ _
/-- lines from l on are written back -/
def aClN : Nat → Nat → zA → zA
  | 0, _, a => a
  | n + 1, l, a => aClN n (l + 1) (aWb a l)
def aCl (a : zA) : zA := aClN 32 0 a
/-- an act: kind, spot, word -/
abbrev zAc : Type := Nat × Nat × Option Nat
def zXok (x : zAc) : Prop := x.1 ≤ 3 ∧ x.2.1 < 256 ∧ ∀ w, x.2.2 = some w → w < 65536
def aAct (k : zK) (a : zA) (x : zAc) : zA := if x.1 = 2 then aFg a (x.2.1 / 8) else if x.1 = 3 then aCl a else (aUse k a x.2.1 x.2.2 0 0).1
theorem aWb_Tg {k : zK} {a : zA} {l : Nat} (h : zIT k a) : zIT k (aWb a l) := fun s hs => by
  have : aTags k (aWb a l) s 99 = aTags k a s 99 := by
    unfold aTags aCs
    have : aCd (aWb a l) 99 = aCd a 99 := by
      funext x
      unfold aCd
      rw [aWb_U]
    rw [this]
  rw [this]
  exact h s hs
theorem aClN_ok {k : zK} {B : Nat} : ∀ (n l : Nat) (a : zA), l + n ≤ 32 → zIA B a → zIT k a → zIA B (aClN n l a) ∧ zIT k (aClN n l a) ∧ aC (aClN n l a) = aC a
  | 0, l, a, _, h1, h2 => ⟨h1, h2, rfl⟩
  | n + 1, l, a, hl, h1, h2 => by
    obtain ⟨q1, q2, q3⟩ := aClN_ok n (l + 1) (aWb a l) (by omega) (aWb_I h1 (by omega)) (aWb_Tg h2)
    exact ⟨q1, q2, by rw [show aClN (n + 1) l a = aClN n (l + 1) (aWb a l) from rfl, q3, aWb_C]⟩
theorem aAct_ok {k : zK} {B : Nat} {a : zA} {x : zAc} (hk : zKok k) (hx : zXok x) (hI : zIA B a) (hT : zIT k a) (hC : aC a + 1 ≤ B) : zIA B (aAct k a x) ∧ zIT k (aAct k a x) ∧ aC (aAct k a x) ≤ aC a + 1 := by
  have hl : x.2.1 / 8 < 32 := by have := hx.2.1; omega
  unfold aAct
  by_cases c : x.1 = 2
  · rw [if_pos c]
    exact ⟨aFg_I hI hl, fun s hs => Nat.le_trans aTags_fg (hT s hs), by rw [aFg_C]; omega⟩
  · rw [if_neg c]
    by_cases c3 : x.1 = 3
    · rw [if_pos c3]
      obtain ⟨q1, q2, q3⟩ := aClN_ok (k := k) 32 0 a (by omega) hI hT
      exact ⟨q1, q2, by unfold aCl; rw [q3]; omega⟩
    · rw [if_neg c3]
      obtain ⟨q1, q2⟩ := aUse_I (k := k) (v := 0) (b := 0) hx.2.1 hI hC hx.2.2
      exact ⟨q1, aUse_T hk hx.2.1 hT, by rw [q2]; omega⟩
def aActs (k : zK) (r : zA) (A : List zAc) : zA := A.foldl (aAct k) r
theorem aActs_ok {k : zK} {B : Nat} (hk : zKok k) : ∀ (A : List zAc) (r : zA), (∀ x ∈ A, zXok x) → zIA B r → zIT k r → aC r + A.length ≤ B → zIA B (aActs k r A) ∧ zIT k (aActs k r A) ∧ aC (aActs k r A) ≤ aC r + A.length
  | [], r, _, h1, h2, _ => ⟨h1, h2, Nat.le_refl _⟩
  | x :: A, r, hx, h1, h2, hC => by
    simp at hC
    obtain ⟨q1, q2, q3⟩ := aAct_ok hk (hx x List.mem_cons_self) h1 h2 (by omega)
    obtain ⟨p1, p2, p3⟩ := aActs_ok hk A (aAct k r x) (fun y hy => hx y (List.mem_cons_of_mem _ hy)) q1 q2 (by omega)
    exact ⟨p1, p2, by simp; exact Nat.le_trans p3 (by omega)⟩
section PERF
variable {st wy : Nat} {wg : Bool} {B : Nat} {used last shape dirty memory words : Nat → Int32}
theorem pX3_clean_loop {k : zK} {c1 c2 c3 c4 cl h v : Int32} : ∀ (n N l : Nat) (a : zA) (b : Nat) (dirty memory : Nat → Int32), l + n = 32 → n < N → zIA B a → zRS k a used last shape dirty memory words →
    ∃ b' d m, fX3_perform_24 c1 c2 c3 c4 N (nI l) cl h v (nI b) dirty last memory shape used words = some (cl, h, v, b', d, last, m, shape, used, words) ∧ zRS k (aClN n l a) used last shape d m words := by
  intro n
  induction n with
  | zero =>
    intro N l a b dirty memory e hN hI hR
    obtain ⟨N, rfl⟩ : ∃ k, N = k + 1 := ⟨N - 1, by omega⟩
    rw [fX3_perform_24, if_pos (n32 (by omega) (by omega))]
    exact ⟨_, _, _, rfl, hR⟩
  | succ n ih =>
    intro N l a b dirty memory e hN hI hR
    obtain ⟨N, rfl⟩ : ∃ k, N = k + 1 := ⟨N - 1, by omega⟩
    obtain ⟨d, m, f1, f2⟩ := pX3_writeBack (b := b) hI hR (show l < 32 by omega)
    rw [fX3_perform_24, if_neg (n32' (by omega)), f1, Option.bind_some, zlet_e, show nI l + 1 = nI (l + 1) from nI_1 _]
    exact ih N (l + 1) (aWb a l) (b + aD a l) d m (by omega) (by omega) (aWb_I hI (by omega)) f2
theorem pX3_perform (hsw : zSW st wy) {a : zA} {x : zAc} (hx : zXok x) (hI : zIA B a) (hC : aC a + 1 ≤ B) (hR : zRS (mkK st wy wg false) a used last shape dirty memory words) {h v b : Int32} :
    ∃ h' v' b' d la m sh u ws, fX3_perform (nI st) (nI wy) (nI (zbn wg)) (nI (zbn false)) (nI (aC a)) h v b dirty last memory shape used words (nI x.1) (nI x.2.1) (zov (-1) x.2.2) = some (nI (aC (aAct (mkK st wy wg false) a x)), h', v', b', d, la, m, sh, u, ws) ∧ zRS (mkK st wy wg false) (aAct (mkK st wy wg false) a x) u la sh d m ws := by
  obtain ⟨kd, sp, wo⟩ := x
  obtain ⟨hk, hs, hw⟩ := hx
  simp at hk hs hw
  obtain ⟨hn, rfl⟩ := nI_any h
  obtain ⟨vn, rfl⟩ := nI_any v
  obtain ⟨bn, rfl⟩ := nI_any b
  have hl : sp / 8 < 32 := by omega
  unfold fX3_perform aAct
  dsimp only
  by_cases c : kd = 2
  · obtain ⟨d, m, u, f1, f2⟩ := pX3_forgetLine (b := bn) hI hR hl
    rw [if_pos (show nI kd = 2 by rw [c]; rfl), show (8 : Int32) = nI 8 from rfl, zdiv_n (by omega) (by omega) (by omega), f1, Option.bind_some, if_pos c, aFg_C]
    exact ⟨_, _, _, _, _, _, _, _, _, rfl, f2⟩
  · rw [if_neg (show ¬ nI kd = 2 from fun z => c ((nI_eq (a := kd) (b := 2) (by omega) (by omega)).mp z)), if_neg c]
    by_cases c3 : kd = 3
    · obtain ⟨b', d, m, f1, f2⟩ := pX3_clean_loop (c1 := nI st) (c2 := nI wy) (c3 := nI (zbn wg)) (c4 := nI (zbn false)) (cl := nI (aC a)) (h := nI hn) (v := nI vn) 32 zF 0 a bn dirty memory (by omega) (zF_gt (by omega)) hI hR
      have e : aC (aCl a) = aC a := by
        have h0 : ∀ (n l : Nat) (a : zA), aC (aClN n l a) = aC a := by
          intro n
          induction n with
          | zero => intro l a; rfl
          | succ n ih => intro l a; rw [show aClN (n + 1) l a = aClN n (l + 1) (aWb a l) from rfl, ih, aWb_C]
        unfold aCl
        exact h0 32 0 a
      rw [if_pos (show nI kd = 3 by rw [c3]; rfl), if_pos c3, e]
      exact ⟨_, _, _, _, _, _, _, _, _, f1, f2⟩
    · rw [if_neg (show ¬ nI kd = 3 from fun z => c3 ((nI_eq (a := kd) (b := 3) (by omega) (by omega)).mp z)), if_neg c3]
      obtain ⟨d, la, m, sh, u, ws, f1, f2, f3, f4⟩ := pX3_use (v := vn) (b := bn) (h := hn) (wo := wo) hsw hs hI hC hR hw
      rw [f1, Option.bind_some]
      rw [aUse_vb vn bn 0 0] at f2 f4
      rw [f4]
      exact ⟨_, _, _, _, _, _, _, _, _, rfl, f2⟩
end PERF
