/-! ===== a plan: both sides hold it; runs as told ===== -/
/-- sets, ways, weighed, steps, memory, unsure words, what was seen -/
abbrev zP : Type := Nat × Nat × Bool × zL × (Nat → Int32) × List (Nat × Nat) × List (Nat × Bool)
abbrev pSt (p : zP) : Nat := p.1
abbrev pWy (p : zP) : Nat := p.2.1
abbrev pWg (p : zP) : Bool := p.2.2.1
abbrev pL (p : zP) : zL := p.2.2.2.1
abbrev pM (p : zP) : Nat → Int32 := p.2.2.2.2.1
abbrev pU (p : zP) : List (Nat × Nat) := p.2.2.2.2.2.1
abbrev pS (p : zP) : List (Nat × Bool) := p.2.2.2.2.2.2
def zPok (p : zP) : Prop := zSW (pSt p) (pWy p) ∧ zLok (pL p) ∧ (pL p).length ≤ 16 ∧ zMok (pM p) ∧ zUok (pU p) ∧ (pU p).length ≤ 4 ∧ (pS p).length ≤ 6 ∧ ∀ s ∈ pS p, s.1 < (pL p).length
def zPX (p : zP) (sets ways weighed steps unsure seen : Int32) (memory seenHit seenStep stepSpot stepWord unsureSpot unsureWord : Nat → Int32) : Prop :=
  sets = nI (pSt p) ∧ ways = nI (pWy p) ∧ weighed = nI (zbn (pWg p)) ∧ steps = nI (pL p).length ∧ unsure = nI (pU p).length ∧ seen = nI (pS p).length ∧ (∀ j, j < 256 → memory j = pM p j) ∧ (∀ i s, (pS p)[i]? = some s → seenStep i = nI s.1 ∧ seenHit i = nI (zbn s.2)) ∧ zLX (pL p) stepSpot stepWord ∧ zUX (pU p) unsureSpot unsureWord
def zPM (p : zP) (sets ways steps unsures saws hit weighed : Int32) (at' line may memory put saw unsure : Nat → Int32) : Prop :=
  sets = nI (pSt p) ∧ ways = nI (pWy p) ∧ weighed = nI (zbn (pWg p)) ∧ steps = nI (pL p).length ∧ unsures = nI (pU p).length ∧ saws = nI (pS p).length ∧ (∀ j, j < 256 → memory j = pM p j) ∧ (∀ i s, (pS p)[i]? = some s → saw i = nI s.1 ∧ zbt hit i = s.2) ∧ zLM (pL p) line at' put ∧ zUX (pU p) unsure may
/-- a run: the state, hits as bits, hits, victims, written back -/
def aRn (p : zP) (wy : Nat) (pl : Bool) (o : Int32) : zA × Int32 × Nat × Nat × Nat := aRun (mkK (pSt p) wy (pWg p && !pl) pl) 0 (pL p) (aBeg (uMem o 0 (pU p) (pM p)), 0, 0, 0, 0)
theorem zSW_w {st wy w : Nat} (h : zSW st wy) (h1 : 1 ≤ w) (h4 : w ≤ 4) : zSW st w := ⟨h.1, h.2.1, h1, h4⟩
section PLAN
variable {p : zP} {sets ways weighed steps unsure seen : Int32} {memory seenHit seenStep stepSpot stepWord unsureSpot unsureWord : Nat → Int32}
theorem pX3_runs (hp : zPok p) (hx : zPX p sets ways weighed steps unsure seen memory seenHit seenStep stepSpot stepWord unsureSpot unsureWord) {wy : Nat} {pl : Bool} {o : Int32} (h1 : 1 ≤ wy) (h4 : wy ≤ 4) {s1 s2 s3 s4 s5 s6 s7 s8 : Int32} {t1 t2 t3 t4 t5 t6 : Nat → Int32} :
    ∃ d m u ws, fX3_begin s1 s2 s3 s4 s5 s6 s7 s8 sets weighed unsure memory unsureSpot unsureWord t1 t3 t5 t6 (nI wy) (nI (zbn pl)) o = some (nI (pSt p), nI wy, nI (zbn (pWg p && !pl)), nI (zbn pl), 0, 0, 0, 0, d, m, u, ws) ∧
    ∃ c d2 la2 m2 sh2 u2 ws2, fX3_runSteps (nI (pSt p)) (nI wy) (nI (zbn (pWg p && !pl))) (nI (zbn pl)) 0 0 0 0 steps stepSpot stepWord d t2 m t4 u ws = some ((aRn p wy pl o).2.1, c, nI (aRn p wy pl o).2.2.1, nI (aRn p wy pl o).2.2.2.1, nI (aRn p wy pl o).2.2.2.2, d2, la2, m2, sh2, u2, ws2) := by
  obtain ⟨e1, e2, e3, e4, e5, e6, e7, e8, e9, e10⟩ := hx
  obtain ⟨q1, q2, q3, q4, q5, q6, q7, q8⟩ := hp
  rw [e1, e3, e5, e4]
  obtain ⟨d, m, u, ws, f1, f2⟩ := pX3_begin (st := pSt p) (wy := wy) (wg := pWg p) (pl := pl) (o := o) (s1 := s1) (s2 := s2) (s3 := s3) (s4 := s4) (s5 := s5) (s6 := s6) (s7 := s7) (s8 := s8) (memory := t3) (used := t5) (words := t6) (dirty := t1) q5 e10 q6 e7
  refine ⟨d, m, u, ws, f1, ?_⟩
  obtain ⟨c, h', d2, la2, m2, sh2, u2, ws2, g1, g2, g3, g4⟩ := pX3_run_loop (B := 10000) (wg := pWg p && !pl) (pl := pl) (zSW_w q1 h1 h4) q2 e9 q3 (pL p) [] zF (aBeg (uMem o 0 (pU p) (pM p))) 0 0 0 0 u t2 t4 d m ws rfl (zF_gt (by omega)) (aBeg_I (uMem_ok q5 q4) (by decide)) (by show 0 + _ ≤ _; omega) (f2 _ _ _)
  rw [g2] at g1
  exact ⟨c, d2, la2, m2, sh2, u2, ws2, g1⟩
theorem pX5_runTold (hp : zPok p) (hx : zPX p sets ways weighed steps unsure seen memory seenHit seenStep stepSpot stepWord unsureSpot unsureWord) {wy : Nat} {pl : Bool} (h1 : 1 ≤ wy) (h4 : wy ≤ 4) {s1 s2 s3 s4 s5 s6 s7 s8 : Int32} {t1 t2 t3 t4 t5 t6 : Nat → Int32} :
    ∃ a1 a2 a3 a4 c r, fX5_runTold sets weighed steps unsure s1 s2 s3 s4 s5 s6 s7 s8 memory stepSpot stepWord unsureSpot unsureWord t1 t2 t3 t4 t5 t6 (nI wy) (nI (zbn pl)) = some ((aRn p wy pl 0).2.1, a1, a2, a3, a4, c, nI (aRn p wy pl 0).2.2.1, nI (aRn p wy pl 0).2.2.2.1, nI (aRn p wy pl 0).2.2.2.2, r) := by
  obtain ⟨d, m, u, ws, f1, c, d2, la2, m2, sh2, u2, ws2, f2⟩ := pX3_runs (o := 0) (s1 := s1) (s2 := s2) (s3 := s3) (s4 := s4) (s5 := s5) (s6 := s6) (s7 := s7) (s8 := s8) (t1 := t1) (t2 := t2) (t3 := t3) (t4 := t4) (t5 := t5) (t6 := t6) (pl := pl) hp hx h1 h4
  unfold fX5_runTold
  rw [f1, Option.bind_some]
  rw [f2, Option.bind_some]
  exact ⟨_, _, _, _, _, _, rfl⟩
end PLAN
section PLANM
variable {p : zP} {sets ways steps unsures saws hit weighed : Int32} {at' line may memory put saw unsure : Nat → Int32}
theorem pX7_stepsR (hp : zPok p) (hm : zPM p sets ways steps unsures saws hit weighed at' line may memory put saw unsure) {wy : Nat} {o : Int32} (h1 : 1 ≤ wy) (h4 : wy ≤ 4) {s1 s2 s3 s4 s5 s6 : Int32} {x od : Nat → Int32} :
    ∃ y, fX7_asTold s1 s2 s3 ways unsures x may memory unsure o = some (ways, 0, 0, y) ∧
    ∃ o2 od2 y2, fX7_steps (nI wy) 0 0 s4 s5 s6 sets steps weighed od y at' line put = some (nI (aRn p wy false o).2.2.2.1, nI (aRn p wy false o).2.2.2.2, o2, (aRn p wy false o).2.1, nI (aRn p wy false o).2.2.1, od2, y2) := by
  obtain ⟨e1, e2, e3, e4, e5, e6, e7, e8, e9, e10⟩ := hm
  obtain ⟨q1, q2, q3, q4, q5, q6, q7, q8⟩ := hp
  rw [e1, e3, e5, e4]
  obtain ⟨y, f1, f2⟩ := pX7_asTold (x := x) (cw := ways) (o := o) (s1 := s1) (s2 := s2) (s3 := s3) q5 e10 q6 e7
  refine ⟨y, f1, ?_⟩
  obtain ⟨o2, od2, y2, g1, g2⟩ := pX7_run_loop (B := 10000) (wg := pWg p) (zSW_w q1 h1 h4) q2 e9 q3 (pL p) [] zF (aBeg (uMem o 0 (pU p) (pM p))) 0 0 0 0 s4 od y rfl (zF_gt (by omega)) (aBeg_I (uMem_ok q5 q4) (by decide)) (by show 0 + _ ≤ _; omega) f2 aBeg_T
  have ew : (pWg p && !false) = pWg p := by simp
  unfold aRn
  rw [ew]
  exact ⟨o2, od2, y2, g1⟩
theorem pX7_runs (hp : zPok p) (hm : zPM p sets ways steps unsures saws hit weighed at' line may memory put saw unsure) {wy : Nat} (h1 : 1 ≤ wy) (h4 : wy ≤ 4) {s1 s2 s3 s4 s5 s6 : Int32} {x od : Nat → Int32} :
    ∃ o2 r, fX7_runs s1 s2 s3 s4 s5 s6 sets ways steps unsures weighed od x at' line may memory put unsure (nI wy) = some (nI wy, nI (aRn p wy false 0).2.2.2.1, nI (aRn p wy false 0).2.2.2.2, o2, (aRn p wy false 0).2.1, nI (aRn p wy false 0).2.2.1, r) := by
  obtain ⟨y, f1, o2, od2, y2, f2⟩ := pX7_stepsR (o := 0) (s1 := s1) (s2 := s2) (s3 := s3) (s4 := s4) (s5 := s5) (s6 := s6) (x := x) (od := od) hp hm h1 h4
  unfold fX7_runs
  rw [f1, Option.bind_some]
  rw [f2, Option.bind_some]
  exact ⟨_, _, rfl⟩
/-- the first seen that isn't so -/
def zwr (t : Int32) : Nat → List (Nat × Bool) → Option Nat
  | _, [] => none
  | k, (s, h) :: S => if zbt t s = h then zwr t (k + 1) S else some k
theorem zbi_inj {a b : Bool} : zbi a = zbi b ↔ a = b := by cases a <;> cases b <;> decide
theorem zbt_v (o : Int32) (i : Nat) : (o >>> (nI i &&& 31)) &&& 1 = nI (zbn (zbt o i)) := by
  obtain ⟨j, hj, e⟩ := pk_andE (o >>> (nI i &&& 31)) (m := 1) 1 rfl
  unfold zbt
  rw [e]
  have : j = 0 ∨ j = 1 := by omega
  rcases this with rfl | rfl <;> rfl
theorem zbn_inj {a b : Bool} : nI (zbn a) = nI (zbn b) ↔ a = b := by cases a <;> cases b <;> decide
theorem pX7_wrong_loop (hp : zPok p) (hm : zPM p sets ways steps unsures saws hit weighed at' line may memory put saw unsure) {s1 s2 s3 s4 s6 t : Int32} {od x : Nat → Int32} : ∀ (R P : List (Nat × Bool)) (N : Nat), P ++ R = pS p → R.length < N →
    fX7_wrongSaw_11 sets ways steps unsures saws hit weighed at' line may memory put saw unsure N (nI P.length) s1 s2 s3 s4 t s6 od x = some (zov (-2) (zwr t P.length R), s1, s2, s3, s4, t, s6, od, x) := by
  have e6 := hm.2.2.2.2.2.1
  have e8 := hm.2.2.2.2.2.2.2.1
  have q7 := hp.2.2.2.2.2.2.1
  intro R
  induction R with
  | nil =>
    intro P N e hN
    obtain ⟨N, rfl⟩ : ∃ k, N = k + 1 := ⟨N - 1, by omega⟩
    rw [List.append_nil] at e
    rw [fX7_wrongSaw_11, e6, e, if_pos (Int32.le_refl _)]
    rfl
  | cons s R ih =>
    intro P N e hN
    obtain ⟨sp, h⟩ := s
    obtain ⟨N, rfl⟩ : ∃ k, N = k + 1 := ⟨N - 1, by omega⟩
    have hlen : (pS p).length = P.length + R.length + 1 := by rw [← e]; simp; omega
    obtain ⟨x1, x2⟩ := e8 P.length (sp, h) (by rw [← e]; simp)
    have e' : (P ++ [(sp, h)]) ++ R = pS p := by rw [← e]; simp
    simp at hN
    have step := ih (P ++ [(sp, h)]) N e' (by omega)
    rw [show (P ++ [(sp, h)]).length = P.length + 1 by simp] at step
    rw [fX7_wrongSaw_11, e6, if_neg (nI_ge (by omega) (by omega)), zald_n (by omega) (by omega), x1, pX7_bit, Option.bind_some, pX7_bit, Option.bind_some, x2, ← e6, zlet_e, show nI P.length + 1 = nI (P.length + 1) from nI_1 _]
    unfold zwr
    by_cases c : zbt t sp = h
    · rw [if_pos (zbi_inj.mpr c), if_pos c]
      exact step
    · rw [if_neg (fun z => c (zbi_inj.mp z)), if_neg c]
      rfl
theorem pX7_wrongSaw (hp : zPok p) (hm : zPM p sets ways steps unsures saws hit weighed at' line may memory put saw unsure) {o s1 s2 s3 s4 s5 s6 : Int32} {x od : Nat → Int32} :
    ∃ r, fX7_wrongSaw s1 s2 s3 s4 s5 s6 sets ways steps unsures saws hit weighed od x at' line may memory put saw unsure o = some (zov (-2) (zwr (aRn p (pWy p) false o).2.1 0 (pS p)), r) := by
  obtain ⟨y, f1, o2, od2, y2, f2⟩ := pX7_stepsR (o := o) (s1 := s1) (s2 := s2) (s3 := s3) (s4 := s4) (s5 := s5) (s6 := s6) (x := x) (od := od) hp hm hp.1.2.2.1 hp.1.2.2.2
  unfold fX7_wrongSaw
  rw [f1, Option.bind_some]
  have e2 := hm.2.1
  rw [show (ways, (0 : Int32), (0 : Int32), y).1 = nI (pWy p) from e2]
  rw [f2, Option.bind_some]
  exact ⟨_, pX7_wrong_loop hp hm (pS p) [] zF rfl (zF_gt (by have := hp.2.2.2.2.2.2.1; omega))⟩
end PLANM
section PLANX
variable {p : zP} {sets ways weighed steps unsure seen : Int32} {memory seenHit seenStep stepSpot stepWord unsureSpot unsureWord : Nat → Int32}
theorem pX1_agrees_loop (hp : zPok p) (hx : zPX p sets ways weighed steps unsure seen memory seenHit seenStep stepSpot stepWord unsureSpot unsureWord) {t : Int32} : ∀ (R P : List (Nat × Bool)) (N : Nat), P ++ R = pS p → R.length < N →
    fX1_agrees_2 seen seenHit seenStep N t (nI P.length) = some (zbi (zwr t P.length R).isNone) := by
  have e6 := hx.2.2.2.2.2.1
  have e8 := hx.2.2.2.2.2.2.2.1
  have q7 := hp.2.2.2.2.2.2.1
  intro R
  induction R with
  | nil =>
    intro P N e hN
    obtain ⟨N, rfl⟩ : ∃ k, N = k + 1 := ⟨N - 1, by omega⟩
    rw [List.append_nil] at e
    rw [fX1_agrees_2, e6, e, if_pos (Int32.le_refl _)]
    rfl
  | cons s R ih =>
    intro P N e hN
    obtain ⟨sp, h⟩ := s
    obtain ⟨N, rfl⟩ : ∃ k, N = k + 1 := ⟨N - 1, by omega⟩
    have hlen : (pS p).length = P.length + R.length + 1 := by rw [← e]; simp; omega
    obtain ⟨x1, x2⟩ := e8 P.length (sp, h) (by rw [← e]; simp)
    have e' : (P ++ [(sp, h)]) ++ R = pS p := by rw [← e]; simp
    simp at hN
    have step := ih (P ++ [(sp, h)]) N e' (by omega)
    rw [show (P ++ [(sp, h)]).length = P.length + 1 by simp] at step
    rw [fX1_agrees_2, e6, if_neg (nI_ge (by omega) (by omega)), zald_n (by omega) (by omega), x1, zlet_e, zlet_e, zbt_v, zald_n (by omega) (by omega), x2, ← e6, zlet_e, show nI P.length + 1 = nI (P.length + 1) from nI_1 _]
    unfold zwr
    by_cases c : zbt t sp = h
    · rw [if_pos (zbn_inj.mpr c), if_pos c]
      exact step
    · rw [if_neg (fun z => c (zbn_inj.mp z)), if_neg c]
      rfl
theorem pX1_agrees (hp : zPok p) (hx : zPX p sets ways weighed steps unsure seen memory seenHit seenStep stepSpot stepWord unsureSpot unsureWord) {t : Int32} : fX1_agrees seen seenHit seenStep t = some (zbi (zwr t 0 (pS p)).isNone) :=
  pX1_agrees_loop hp hx (pS p) [] zF rfl (zF_gt (by have := hp.2.2.2.2.2.2.1; omega))
end PLANX
