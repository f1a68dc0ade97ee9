/-! ===== what holds between two calls of the law ===== -/
def zB0 (t : Nat) (s : Nat → Int32) (a : Nat → Nat → Int32) (ms : Nat → Int32) (ma : Nat → Nat → Int32) : Prop :=
  zTape t (a 1) (ma 1) ∧ s 0 = nI t ∧ ms 3 = nI t ∧ ms 1 = s 3 ∧ (s 3 = 4 → ms 2 = s 28) ∧ (s 3 ≠ 4 → ms 2 = -1) ∧ ms 9 = s 27
/-- the plan -/
def zBp (p : zP) (nl : Nat) (s : Nat → Int32) (a : Nat → Nat → Int32) (ms : Nat → Int32) (ma : Nat → Nat → Int32) : Prop :=
  zPok p ∧ zPX p (s 4) (s 5) (s 6) (s 8) (s 9) (s 10) (a 4) (a 10) (a 9) (a 5) (a 6) (a 7) (a 8) ∧ zFK p (s 11) (s 12) ∧ s 7 = nI nl ∧ ms 28 = nI nl ∧ zPM p (ms 26) (ms 27) (ms 30) (ms 31) (ms 32) (ms 33) (ms 34) (ma 13) (ma 12) (ma 16) (ma 11) (ma 14) (ma 17) (ma 15)
/-- now and before -/
def zBn (st wy : Nat) (wg : Bool) (nc : Nat) (r : zA) (A : List zAc) (s : Nat → Int32) (a : Nat → Nat → Int32) (ms : Nat → Int32) (ma : Nat → Nat → Int32) : Prop :=
  zAb st wy wg nc r A ∧ zCl st wy wg r A (s 29) (s 30) (s 31) (s 32) (s 33) (a 27) (a 25) (a 22) (a 26) (a 24) (a 23) (s 46) (s 47) (s 48) (s 49) (s 50) (a 42) (a 40) (a 37) (a 41) (a 39) (a 38) (s 45) (a 43) (a 44) (a 45) ∧ zMo st wy wg r A (ms 11) (ma 4) (ma 2)
/-- images: e stores are made, the first of them hold I -/
def zBi (st wy : Nat) (wg : Bool) (nc e : Nat) (I : List zA) (s : Nat → Int32) (ss : Nat → Nat → Int32) (ca : Nat → Nat → Nat → Int32) (ms : Nat → Int32) (ma : Nat → Nat → Int32) : Prop :=
  zIok st wy wg nc I ∧ s 2 = nI I.length ∧ zMi I (ms 12) (ma 5) ∧ I.length ≤ e ∧ ∀ (j : Nat) (b : zA), I[j]? = some b → zSt st wy wg b (ss j 0) (ss j 1) (ss j 2) (ss j 3) (ss j 4) (ca j 6) (ca j 4) (ca j 1) (ca j 5) (ca j 3) (ca j 2)
def zBg (e : Nat) (g : Nat → Option Nat) (rs : Nat → Nat → Nat) : Prop := e ≤ 3 ∧ ∀ j, j < 3 → g j = if j < e then some (rs j 0) else none
def IM (E : zE) (rs : Nat → Nat → Nat) (ss : Nat → Nat → Int32) (ca : Nat → Nat → Nat → Int32) : Nat → va_W
  | 0 => []
  | e + 1 => ST E (rs e) (ss e) (ca e) ++ IM E rs ss ca e
def zGC (i e : Nat) (s : Nat → Int32) (a : Nat → Nat → Int32) (g : Nat → Option Nat) (ms : Nat → Int32) (ma : Nat → Nat → Int32) (rs : Nat → Nat → Nat) (ss : Nat → Nat → Int32) (ca : Nat → Nat → Nat → Int32) : Prop :=
  s 1 = 1 ∧ zBg e g rs ∧ ∃ (t nc : Nat) (p : zP) (nl : Nat) (r : zA) (A : List zAc) (I : List zA), nc ≤ i ∧ zB0 t s a ms ma ∧ zBp p nl s a ms ma ∧ zBn (pSt p) (pWy p) (pWg p) nc r A s a ms ma ∧ zBi (pSt p) (pWy p) (pWg p) nc e I s ss ca ms ma
/-- no cache yet -/
def zGN (s : Nat → Int32) (a : Nat → Nat → Int32) (g : Nat → Option Nat) (ms : Nat → Int32) (ma : Nat → Nat → Int32) (rs : Nat → Nat → Nat) : Prop :=
  s 1 = 0 ∧ zBg 0 g rs ∧ (∃ t, zB0 t s a ms ma) ∧ s 2 = 0 ∧ s 45 = 0 ∧ (s 4 = 0 ∧ s 5 = 0 ∧ s 6 = 0 ∧ s 7 = 0 ∧ s 8 = 0 ∧ s 9 = 0 ∧ s 10 = 0) ∧ ∀ j, j < 32 → a 27 j = 0
theorem zGC_up {j e : Nat} {s : Nat → Int32} {a : Nat → Nat → Int32} {g : Nat → Option Nat} {ms : Nat → Int32} {ma : Nat → Nat → Int32} {rs : Nat → Nat → Nat} {ss : Nat → Nat → Int32} {ca : Nat → Nat → Nat → Int32} (h : zGC j e s a g ms ma rs ss ca) : zGC (j + 1) e s a g ms ma rs ss ca := by
  obtain ⟨h1, hg, t, nc, p, nl, r, A, I, hnc, h2⟩ := h
  exact ⟨h1, hg, t, nc, p, nl, r, A, I, Nat.le_succ_of_le hnc, h2⟩
theorem zB0_q {t : Nat} {s s' ms ms' : Nat → Int32} {a a' ma ma' : Nat → Nat → Int32} {t' : Int32} (h : zB0 t s a ms ma) (h4 : t' ≠ 4) (e0 : s' 0 = s 0) (e1 : s' 3 = t') (e2 : ms' 1 = t') (e3 : ms' 2 = -1) (e4 : ms' 3 = ms 3) (e5 : a' 1 = a 1) (e6 : ma' 1 = ma 1) (e7 : s' 27 = s 27) (e8 : ms' 9 = ms 9) : zB0 t s' a' ms' ma' := by
  obtain ⟨h0, h1, h2, h3, h5, h6, h7⟩ := h
  refine ⟨?_, ?_, ?_, ?_, ?_, ?_, ?_⟩
  · rw [e5, e6]
    exact h0
  · rw [e0, h1]
  · rw [e4, h2]
  · rw [e1, e2]
  · intro h
    rw [e1] at h
    exact absurd h h4
  · intro _
    exact e3
  · rw [e7, e8, h7]
theorem zBi_up {st wy : Nat} {wg : Bool} {nc e : Nat} {I : List zA} {s : Nat → Int32} {ss : Nat → Nat → Int32} {ca : Nat → Nat → Nat → Int32} {ms : Nat → Int32} {ma : Nat → Nat → Int32} (h : zBi st wy wg nc e I s ss ca ms ma) : zBi st wy wg (nc + 1) e I s ss ca ms ma :=
  ⟨⟨h.1.1, fun b hb => ⟨(h.1.2 b hb).1, (h.1.2 b hb).2.1, Nat.le_succ_of_le (h.1.2 b hb).2.2⟩⟩, h.2⟩
theorem zP_in {A Z B R : va_W} : (B ++ (A ++ (Z ++ R))).Perm (A ++ (Z ++ (B ++ R))) := by
  have h1 : (B ++ ((A ++ Z) ++ R)).Perm ((A ++ Z) ++ (B ++ R)) := by
    rw [← List.append_assoc, ← List.append_assoc (A ++ Z)]
    exact List.perm_append_comm.append_right R
  simpa only [List.append_assoc] using h1
theorem zP_out {A Z B R : va_W} : (A ++ (Z ++ (B ++ R))).Perm (B ++ (A ++ (Z ++ R))) := zP_in.symm
theorem zal_at {α : Type} {P : α → Prop} {o : Option α} {x : α} (h : zal P o) (e : o = some x) : P x := h x e
