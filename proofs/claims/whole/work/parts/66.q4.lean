/-! ===== the questions of runs and fits, both sides ===== -/
section Q4
variable {p : zP} {sets ways weighed steps unsure seen : Int32} {memory seenHit seenStep stepSpot stepWord unsureSpot unsureWord : Nat → Int32} {ms mw mst mu msw mh mwg : Int32} {mat mli mma mme mpu msa mun : Nat → Int32} {rf th tr wh s1 s2 s3 s4 s5 s6 s7 s8 s9 s10 u1 u2 u3 u4 u5 u6 u7 u8 kn bi : Int32} {od x oi t1 t2 t3 t4 t5 t6 pd pli : Nat → Int32}
theorem m_runHits (hp : zPok p) (hx : zPX p sets ways weighed steps unsure seen memory seenHit seenStep stepSpot stepWord unsureSpot unsureWord) (hm : zPM p ms mw mst mu msw mh mwg mat mli mma mme mpu msa mun) :
    ∃ v t r r2, fX5_runHits 1 rf sets ways weighed steps unsure u1 u2 u3 u4 u5 u6 u7 u8 memory stepSpot stepWord unsureSpot unsureWord t1 t2 t3 t4 t5 t6 = some (v, t, r) ∧ fX7_runHits th tr wh s1 s2 s3 s4 s5 s6 ms mw mst mu mwg od x mat mli mma mme mpu mun = some (v, 0, t, -1, r2) := by
  obtain ⟨a1, a2, a3, a4, c, r, f1⟩ := pX5_runTold (s1 := u1) (s2 := u2) (s3 := u3) (s4 := u4) (s5 := u5) (s6 := u6) (s7 := u7) (s8 := u8) (t1 := t1) (t2 := t2) (t3 := t3) (t4 := t4) (t5 := t5) (t6 := t6) (wy := pWy p) (pl := false) hp hx hp.1.2.2.1 hp.1.2.2.2
  obtain ⟨o2, r2, f2⟩ := pX7_runs (s1 := s1) (s2 := s2) (s3 := s3) (s4 := s4) (s5 := s5) (s6 := s6) (x := x) (od := od) (wy := pWy p) hp hm hp.1.2.2.1 hp.1.2.2.2
  rw [← hx.2.1, show nI (zbn false) = 0 from rfl] at f1
  rw [← hm.2.1] at f2
  unfold fX5_runHits fX7_runHits
  rw [if_neg (show ¬ (1 : Int32) = 0 by decide), f1, Option.bind_some, f2, Option.bind_some]
  exact ⟨_, _, _, _, rfl, rfl⟩
theorem m_runVictims (hp : zPok p) (hx : zPX p sets ways weighed steps unsure seen memory seenHit seenStep stepSpot stepWord unsureSpot unsureWord) (hm : zPM p ms mw mst mu msw mh mwg mat mli mma mme mpu msa mun) :
    ∃ v t r r2, fX5_runVictims 1 rf sets ways weighed steps unsure u1 u2 u3 u4 u5 u6 u7 u8 memory stepSpot stepWord unsureSpot unsureWord t1 t2 t3 t4 t5 t6 = some (v, t, r) ∧ fX7_runVictims th tr wh s1 s2 s3 s4 s5 s6 ms mw mst mu mwg od x mat mli mma mme mpu mun = some (v, 0, t, -1, r2) := by
  obtain ⟨a1, a2, a3, a4, c, r, f1⟩ := pX5_runTold (s1 := u1) (s2 := u2) (s3 := u3) (s4 := u4) (s5 := u5) (s6 := u6) (s7 := u7) (s8 := u8) (t1 := t1) (t2 := t2) (t3 := t3) (t4 := t4) (t5 := t5) (t6 := t6) (wy := pWy p) (pl := false) hp hx hp.1.2.2.1 hp.1.2.2.2
  obtain ⟨o2, r2, f2⟩ := pX7_runs (s1 := s1) (s2 := s2) (s3 := s3) (s4 := s4) (s5 := s5) (s6 := s6) (x := x) (od := od) (wy := pWy p) hp hm hp.1.2.2.1 hp.1.2.2.2
  rw [← hx.2.1, show nI (zbn false) = 0 from rfl] at f1
  rw [← hm.2.1] at f2
  unfold fX5_runVictims fX7_runVictims
  rw [if_neg (show ¬ (1 : Int32) = 0 by decide), f1, Option.bind_some, f2, Option.bind_some]
  exact ⟨_, _, _, _, rfl, rfl⟩
theorem m_runBacks (hp : zPok p) (hx : zPX p sets ways weighed steps unsure seen memory seenHit seenStep stepSpot stepWord unsureSpot unsureWord) (hm : zPM p ms mw mst mu msw mh mwg mat mli mma mme mpu msa mun) :
    ∃ v t r r2, fX5_runBacks 1 rf sets ways weighed steps unsure u1 u2 u3 u4 u5 u6 u7 u8 memory stepSpot stepWord unsureSpot unsureWord t1 t2 t3 t4 t5 t6 = some (v, t, r) ∧ fX7_runBacks th tr wh s1 s2 s3 s4 s5 s6 ms mw mst mu mwg od x mat mli mma mme mpu mun = some (v, 0, t, -1, r2) := by
  obtain ⟨a1, a2, a3, a4, c, r, f1⟩ := pX5_runTold (s1 := u1) (s2 := u2) (s3 := u3) (s4 := u4) (s5 := u5) (s6 := u6) (s7 := u7) (s8 := u8) (t1 := t1) (t2 := t2) (t3 := t3) (t4 := t4) (t5 := t5) (t6 := t6) (wy := pWy p) (pl := false) hp hx hp.1.2.2.1 hp.1.2.2.2
  obtain ⟨o2, r2, f2⟩ := pX7_runs (s1 := s1) (s2 := s2) (s3 := s3) (s4 := s4) (s5 := s5) (s6 := s6) (x := x) (od := od) (wy := pWy p) hp hm hp.1.2.2.1 hp.1.2.2.2
  rw [← hx.2.1, show nI (zbn false) = 0 from rfl] at f1
  rw [← hm.2.1] at f2
  unfold fX5_runBacks fX7_runBacks
  rw [if_neg (show ¬ (1 : Int32) = 0 by decide), f1, Option.bind_some, f2, Option.bind_some]
  exact ⟨_, _, _, _, rfl, rfl⟩
theorem m_runStep (hp : zPok p) (hx : zPX p sets ways weighed steps unsure seen memory seenHit seenStep stepSpot stepWord unsureSpot unsureWord) (hm : zPM p ms mw mst mu msw mh mwg mat mli mma mme mpu msa mun) (a1 : Int32) :
    ∃ v t r r2, fX5_runStep 1 rf sets ways weighed steps unsure u1 u2 u3 u4 u5 u6 u7 u8 memory stepSpot stepWord unsureSpot unsureWord t1 t2 t3 t4 t5 t6 a1 = some (v, t, r) ∧ fX7_runStep th tr wh s1 s2 s3 s4 s5 s6 ms mw mst mu mwg od x mat mli mma mme mpu mun a1 = some (v, 0, t, -1, r2) := by
  obtain ⟨b1, b2, b3, b4, c, r, f1⟩ := pX5_runTold (s1 := u1) (s2 := u2) (s3 := u3) (s4 := u4) (s5 := u5) (s6 := u6) (s7 := u7) (s8 := u8) (t1 := t1) (t2 := t2) (t3 := t3) (t4 := t4) (t5 := t5) (t6 := t6) (wy := pWy p) (pl := false) hp hx hp.1.2.2.1 hp.1.2.2.2
  obtain ⟨o2, r2, f2⟩ := pX7_runs (s1 := s1) (s2 := s2) (s3 := s3) (s4 := s4) (s5 := s5) (s6 := s6) (x := x) (od := od) (wy := pWy p) hp hm hp.1.2.2.1 hp.1.2.2.2
  rw [← hx.2.1, show nI (zbn false) = 0 from rfl] at f1
  rw [← hm.2.1] at f2
  have hl : (pL p).length ≤ 16 := hp.2.2.1
  have e1 := hx.2.2.2.1
  have e2 := hm.2.2.2.1
  unfold fX5_runStep fX7_runStep
  rw [if_neg (show ¬ (1 : Int32) = 0 by decide)]
  rcases pk_ix a1 (n := (pL p).length) (by omega) with q | q | ⟨k, hk, e3⟩
  · rw [if_pos q, if_pos q]; exact ⟨_, _, _, _, rfl, rfl⟩
  · by_cases c : a1 < 0
    · rw [if_pos c, if_pos c]; exact ⟨_, _, _, _, rfl, rfl⟩
    · have q1 : ¬ a1 < steps := by rw [e1]; exact Int32.not_lt.mpr q
      have q2 : ¬ a1 < mst := by rw [e2]; exact Int32.not_lt.mpr q
      rw [if_neg c, if_neg c, if_neg q1, if_neg q2]; exact ⟨_, _, _, _, rfl, rfl⟩
  · have c : ¬ a1 < 0 := by rw [e3]; exact nI_pos (by omega)
    have q1 : a1 < steps := by rw [e1, e3]; exact nI_lt hk (by omega)
    have q2 : a1 < mst := by rw [e2, e3]; exact nI_lt hk (by omega)
    rw [if_neg c, if_neg c, if_pos q1, if_pos q2, f1, Option.bind_some, f2, Option.bind_some, e3]
    simp only [zlet_e]
    rw [zbt_v, pX7_bit, Option.bind_some]
    cases zbt (aRn p (pWy p) false 0).2.1 k with
    | true => rw [if_neg (show ¬ zbi true = 0 by decide)]; exact ⟨_, _, _, _, rfl, rfl⟩
    | false => rw [if_pos (show zbi false = 0 from rfl)]; exact ⟨_, _, _, _, rfl, rfl⟩
theorem m_plainHits (hp : zPok p) (hx : zPX p sets ways weighed steps unsure seen memory seenHit seenStep stepSpot stepWord unsureSpot unsureWord) (hm : zPM p ms mw mst mu msw mh mwg mat mli mma mme mpu msa mun) :
    ∃ v t r r2, fX5_plainHits 1 rf sets ways weighed steps unsure u1 u2 u3 u4 u5 u6 u7 u8 memory stepSpot stepWord unsureSpot unsureWord t1 t2 t3 t4 t5 t6 = some (v, t, r) ∧ fX7_plainHits th tr wh s1 s2 ms mw mst pd pli mli mpu = some (v, 0, t, -1, r2) := by
  obtain ⟨a1, a2, a3, a4, c, r, f1⟩ := pX5_runTold (s1 := u1) (s2 := u2) (s3 := u3) (s4 := u4) (s5 := u5) (s6 := u6) (s7 := u7) (s8 := u8) (t1 := t1) (t2 := t2) (t3 := t3) (t4 := t4) (t5 := t5) (t6 := t6) (wy := pWy p) (pl := true) hp hx hp.1.2.2.1 hp.1.2.2.2
  obtain ⟨di, li, f2⟩ := pX7_plainly (h := s1) (b := s2) (pd := pd) (plz := pli) hp hm
  rw [← hx.2.1, show nI (zbn true) = 1 from rfl] at f1
  unfold fX5_plainHits fX7_plainHits
  rw [if_neg (show ¬ (1 : Int32) = 0 by decide), f1, Option.bind_some, f2, Option.bind_some]
  exact ⟨_, _, _, _, rfl, rfl⟩
theorem m_plainBacks (hp : zPok p) (hx : zPX p sets ways weighed steps unsure seen memory seenHit seenStep stepSpot stepWord unsureSpot unsureWord) (hm : zPM p ms mw mst mu msw mh mwg mat mli mma mme mpu msa mun) :
    ∃ v t r r2, fX5_plainBacks 1 rf sets ways weighed steps unsure u1 u2 u3 u4 u5 u6 u7 u8 memory stepSpot stepWord unsureSpot unsureWord t1 t2 t3 t4 t5 t6 = some (v, t, r) ∧ fX7_plainBacks th tr wh s1 s2 ms mw mst pd pli mli mpu = some (v, 0, t, -1, r2) := by
  obtain ⟨a1, a2, a3, a4, c, r, f1⟩ := pX5_runTold (s1 := u1) (s2 := u2) (s3 := u3) (s4 := u4) (s5 := u5) (s6 := u6) (s7 := u7) (s8 := u8) (t1 := t1) (t2 := t2) (t3 := t3) (t4 := t4) (t5 := t5) (t6 := t6) (wy := pWy p) (pl := true) hp hx hp.1.2.2.1 hp.1.2.2.2
  obtain ⟨di, li, f2⟩ := pX7_plainly (h := s1) (b := s2) (pd := pd) (plz := pli) hp hm
  rw [← hx.2.1, show nI (zbn true) = 1 from rfl] at f1
  unfold fX5_plainBacks fX7_plainBacks
  rw [if_neg (show ¬ (1 : Int32) = 0 by decide), f1, Option.bind_some, f2, Option.bind_some]
  exact ⟨_, _, _, _, rfl, rfl⟩
theorem m_hitsBy (hp : zPok p) (hx : zPX p sets ways weighed steps unsure seen memory seenHit seenStep stepSpot stepWord unsureSpot unsureWord) (hm : zPM p ms mw mst mu msw mh mwg mat mli mma mme mpu msa mun) (a1 : Int32) :
    ∃ v t r r2, fX5_hitsBy 1 rf sets weighed steps unsure u1 u2 u3 u4 u5 u6 u7 u8 memory stepSpot stepWord unsureSpot unsureWord t1 t2 t3 t4 t5 t6 a1 = some (v, t, r) ∧ fX7_hitsBy th tr wh s1 s2 s3 s4 s5 s6 ms mw mst mu mwg od x mat mli mma mme mpu mun a1 = some (v, 0, t, -1, r2) := by
  unfold fX5_hitsBy fX7_hitsBy fX7_in
  rw [if_neg (show ¬ (1 : Int32) = 0 by decide)]
  by_cases c : a1 < 1
  · rw [if_pos c, if_pos c, Option.bind_some, if_pos rfl]; exact ⟨_, _, _, _, rfl, rfl⟩
  · rw [if_neg c, if_neg c]
    by_cases c2 : a1 ≤ 4
    · have c3 : ¬ 4 < a1 := Int32.not_lt.mpr c2
      have h0 : ¬ a1 < 0 := fun z => c (by rw [i_lt] at z ⊢; have e1 : (0 : Int32).toInt = 0 := rfl; have e2 : (1 : Int32).toInt = 1 := rfl; omega)
      obtain ⟨j, hj, e⟩ := nI_of h0
      have hj1 : 1 ≤ j := by
        rw [e, show (1 : Int32) = nI 1 from rfl, nI_ltI hj (by omega)] at c
        omega
      have hj4 : j ≤ 4 := by
        rw [e, show (4 : Int32) = nI 4 from rfl, nI_leI hj (by omega)] at c2
        omega
      obtain ⟨b1, b2, b3, b4, cc, r, f1⟩ := pX5_runTold (s1 := u1) (s2 := u2) (s3 := u3) (s4 := u4) (s5 := u5) (s6 := u6) (s7 := u7) (s8 := u8) (t1 := t1) (t2 := t2) (t3 := t3) (t4 := t4) (t5 := t5) (t6 := t6) (wy := j) (pl := false) hp hx hj1 hj4
      obtain ⟨o2, r2, f2⟩ := pX7_runs (s1 := s1) (s2 := s2) (s3 := s3) (s4 := s4) (s5 := s5) (s6 := s6) (x := x) (od := od) (wy := j) hp hm hj1 hj4
      rw [← e, show nI (zbn false) = 0 from rfl] at f1
      rw [← e] at f2
      rw [if_pos c2, if_neg c3, Option.bind_some, if_neg (show ¬ (1 : Int32) = 0 by decide), f1, Option.bind_some, f2, Option.bind_some]
      exact ⟨_, _, _, _, rfl, rfl⟩
    · have c3 : 4 < a1 := Int32.not_le.mp c2
      rw [if_neg c2, if_pos c3, Option.bind_some, if_pos rfl]; exact ⟨_, _, _, _, rfl, rfl⟩
theorem waysFor_loop (hp : zPok p) (hx : zPX p sets ways weighed steps unsure seen memory seenHit seenStep stepSpot stepWord unsureSpot unsureWord) (hm : zPM p ms mw mst mu msw mh mwg mat mli mma mme mpu msa mun) {hc b1 : Int32} : ∀ (n N i : Nat) (u1 u2 u3 u4 u5 u6 u7 u8 s1 s2 s3 s4 s5 s6 : Int32) (t1 t2 t3 t4 t5 t6 od x : Nat → Int32), i + n = 5 → 1 ≤ i → n < N → ∃ v r r2, fX5_waysFor_31 hc sets weighed steps unsure memory stepSpot stepWord unsureSpot unsureWord N b1 (nI i) rf u1 u2 u3 u4 u5 u6 u7 u8 t1 t2 t3 t4 t5 t6 = some (v, 0, r) ∧ fX7_waysFor_36 ms mw mst mu mwg mat mli mma mme mpu mun N b1 (nI i) th tr wh s1 s2 s3 s4 s5 s6 od x = some (v, th, 0, -1, r2) := by
  intro n
  induction n with
  | zero =>
    intro N i u1 u2 u3 u4 u5 u6 u7 u8 s1 s2 s3 s4 s5 s6 t1 t2 t3 t4 t5 t6 od x h hi hN
    obtain ⟨N, rfl⟩ : ∃ k, N = k + 1 := ⟨N - 1, by omega⟩
    have c : (4 : Int32) < nI i := nI_lt (a := 4) (b := i) (by omega) (by omega)
    rw [fX5_waysFor_31, if_pos c, fX7_waysFor_36, if_pos c]
    exact ⟨_, _, _, rfl, rfl⟩
  | succ n ih =>
    intro N i u1 u2 u3 u4 u5 u6 u7 u8 s1 s2 s3 s4 s5 s6 t1 t2 t3 t4 t5 t6 od x h hi hN
    obtain ⟨N, rfl⟩ : ∃ k, N = k + 1 := ⟨N - 1, by omega⟩
    have c : ¬ (4 : Int32) < nI i := nI_nlt (a := 4) (b := i) (by omega) (by omega)
    obtain ⟨b1', b2, b3, b4, cc, r, f1⟩ := pX5_runTold (s1 := u1) (s2 := u2) (s3 := u3) (s4 := u4) (s5 := u5) (s6 := u6) (s7 := u7) (s8 := u8) (t1 := t1) (t2 := t2) (t3 := t3) (t4 := t4) (t5 := t5) (t6 := t6) (wy := i) (pl := false) hp hx hi (by omega)
    obtain ⟨o2, r2, f2⟩ := pX7_runs (s1 := s1) (s2 := s2) (s3 := s3) (s4 := s4) (s5 := s5) (s6 := s6) (x := x) (od := od) (wy := i) hp hm hi (by omega)
    rw [show nI (zbn false) = 0 from rfl] at f1
    rw [fX5_waysFor_31, if_neg c, fX7_waysFor_36, if_neg c, f1, Option.bind_some, f2, Option.bind_some]
    simp only [zlet_e]
    rw [show nI i + 1 = nI (i + 1) from nI_1 _]
    by_cases q : nI (aRn p i false 0).2.2.1 < b1
    · rw [if_pos q, if_pos q]
      exact ih N (i + 1) _ _ _ _ _ _ _ _ _ _ _ _ _ _ _ _ _ _ _ _ _ _ (by omega) (by omega) (by omega)
    · rw [if_neg q, if_neg q]
      exact ⟨_, _, _, rfl, rfl⟩
theorem m_waysFor (hp : zPok p) (hx : zPX p sets ways weighed steps unsure seen memory seenHit seenStep stepSpot stepWord unsureSpot unsureWord) (hm : zPM p ms mw mst mu msw mh mwg mat mli mma mme mpu msa mun) (a1 : Int32) :
    ∃ v t r r2, fX5_waysFor 1 rf sets weighed steps unsure u1 u2 u3 u4 u5 u6 u7 u8 memory stepSpot stepWord unsureSpot unsureWord t1 t2 t3 t4 t5 t6 a1 = some (v, t, r) ∧ fX7_waysFor th tr wh s1 s2 s3 s4 s5 s6 ms mw mst mu mwg od x mat mli mma mme mpu mun a1 = some (v, 0, t, -1, r2) := by
  unfold fX5_waysFor fX7_waysFor fX7_in
  rw [if_neg (show ¬ (1 : Int32) = 0 by decide)]
  by_cases c : a1 < 0
  · rw [if_pos c, if_pos c, Option.bind_some, if_pos rfl]; exact ⟨_, _, _, _, rfl, rfl⟩
  · rw [if_neg c, if_neg c]
    by_cases c2 : a1 ≤ 16
    · have c3 : ¬ 16 < a1 := Int32.not_lt.mpr c2
      rw [if_pos c2, if_neg c3, Option.bind_some, if_neg (show ¬ (1 : Int32) = 0 by decide)]
      obtain ⟨v, r, r2, e1, e2⟩ := waysFor_loop (rf := rf) (th := 0) (tr := tr) (wh := wh) (hc := 1) (b1 := a1) hp hx hm 4 zF 1 u1 u2 u3 u4 u5 u6 u7 u8 s1 s2 s3 s4 s5 s6 t1 t2 t3 t4 t5 t6 od x (by omega) (by omega) (zF_gt (by omega))
      exact ⟨v, 0, r, r2, e1, e2⟩
    · have c3 : 16 < a1 := Int32.not_le.mp c2
      rw [if_neg c2, if_pos c3, Option.bind_some, if_pos rfl]; exact ⟨_, _, _, _, rfl, rfl⟩
theorem m_fits (hp : zPok p) (hx : zPX p sets ways weighed steps unsure seen memory seenHit seenStep stepSpot stepWord unsureSpot unsureWord) (hm : zPM p ms mw mst mu msw mh mwg mat mli mma mme mpu msa mun) (hk : zFK p kn bi) :
    ∃ v t k2 b2 r r2, fX5_fits 1 rf sets ways weighed steps unsure seen kn bi u1 u2 u3 u4 u5 u6 u7 u8 memory seenHit seenStep stepSpot stepWord unsureSpot unsureWord t1 t2 t3 t4 t5 t6 = some (v, t, k2, b2, r) ∧ zFK p k2 b2 ∧ fX7_fits th tr wh s1 s2 s3 s4 s5 s6 s7 s8 s9 ms mw mst mu msw mh mwg od oi x mat mli mma mme mpu msa mun = some (v, 0, t, -1, r2) := by
  obtain ⟨r, f1⟩ := pX5_fitBits (s1 := u1) (s2 := u2) (s3 := u3) (s4 := u4) (s5 := u5) (s6 := u6) (s7 := u7) (s8 := u8) (t1 := t1) (t2 := t2) (t3 := t3) (t4 := t4) (t5 := t5) (t6 := t6) hp hx hk
  obtain ⟨w', v', b', od', hn', hs', ord', oi', x', g1, g2⟩ := pX7_fitting (a1 := -1) (w := s1) (v := s2) (b := s3) (od := s4) (hn := s5) (hs := s6) (fn := s7) (sn := s8) (en := s9) (ord := od) (oi := oi) (x := x) hp hm
  unfold fX5_fits fX7_fits
  rw [if_neg (show ¬ (1 : Int32) = 0 by decide), f1, Option.bind_some, pJ6_bitCount (pB_lt hp), Option.bind_some, g1, Option.bind_some]
  have e : zpc (pB p) = (pF p).length := by unfold zpc; rw [pB_run hp]
  rw [e]
  exact ⟨_, _, _, _, _, _, rfl, Or.inr ⟨rfl, rfl⟩, rfl⟩
theorem m_fitAt (hp : zPok p) (hx : zPX p sets ways weighed steps unsure seen memory seenHit seenStep stepSpot stepWord unsureSpot unsureWord) (hm : zPM p ms mw mst mu msw mh mwg mat mli mma mme mpu msa mun) (hk : zFK p kn bi) (a1 : Int32) :
    ∃ v t k2 b2 r r2, fX5_fitAt 1 rf sets ways weighed steps unsure seen kn bi u1 u2 u3 u4 u5 u6 u7 u8 memory seenHit seenStep stepSpot stepWord unsureSpot unsureWord t1 t2 t3 t4 t5 t6 a1 = some (v, t, k2, b2, r) ∧ zFK p k2 b2 ∧ fX7_fitAt th tr wh s1 s2 s3 s4 s5 s6 s7 s8 s9 ms mw mst mu msw mh mwg od oi x mat mli mma mme mpu msa mun a1 = some (v, 0, t, -1, r2) := by
  unfold fX5_fitAt fX7_fitAt
  rw [if_neg (show ¬ (1 : Int32) = 0 by decide)]
  by_cases c : 0 ≤ a1
  · obtain ⟨r, f1⟩ := pX5_fitBits (s1 := u1) (s2 := u2) (s3 := u3) (s4 := u4) (s5 := u5) (s6 := u6) (s7 := u7) (s8 := u8) (t1 := t1) (t2 := t2) (t3 := t3) (t4 := t4) (t5 := t5) (t6 := t6) hp hx hk
    obtain ⟨w', v', b', od', hn', hs', ord', oi', x', g1, g2⟩ := pX7_fitting (a1 := a1) (w := s1) (v := s2) (b := s3) (od := s4) (hn := s5) (hs := s6) (fn := s7) (sn := s8) (en := s9) (ord := od) (oi := oi) (x := x) hp hm
    have h16 := pF_len hp
    have hN := pN_le hp
    rw [if_pos c, if_pos c, f1, Option.bind_some, g1, Option.bind_some, zfd_eq (by omega)]
    have := pX5_fitAt_loop (hc := 1) (sets := sets) (ways := ways) (weighed := weighed) (steps := steps) (unsure := unsure) (seen := seen) (memory := memory) (seenHit := seenHit) (seenStep := seenStep) (stepSpot := stepSpot) (stepWord := stepWord) (unsureSpot := unsureSpot) (unsureWord := unsureWord) (rf := rf) (kn := 1) (bi := nI (pB p)) (s1 := r.1) (s2 := r.2.1) (s3 := r.2.2.1) (s4 := r.2.2.2.1) (s5 := r.2.2.2.2.1) (s6 := r.2.2.2.2.2.1) (s7 := r.2.2.2.2.2.2.1) (s8 := r.2.2.2.2.2.2.2.1) (t1 := r.2.2.2.2.2.2.2.2.1) (t2 := r.2.2.2.2.2.2.2.2.2.1) (t3 := r.2.2.2.2.2.2.2.2.2.2.1) (t4 := r.2.2.2.2.2.2.2.2.2.2.2.1) (t5 := r.2.2.2.2.2.2.2.2.2.2.2.2.1) (t6 := r.2.2.2.2.2.2.2.2.2.2.2.2.2) (n := pB p) (b1 := a1) (pB_lt hp) 16 zF 0 0 (by omega) (zF_gt (by omega))
    rw [pB_run hp, show nI 0 = (0 : Int32) from rfl] at this
    rw [this]
    cases hz : zfa a1 0 (pF p) with
    | none =>
      rw [if_pos rfl]
      exact ⟨_, _, _, _, _, _, rfl, Or.inr ⟨rfl, rfl⟩, rfl⟩
    | some o =>
      have hmem : ∀ (F : List Nat) (c o : Nat), zfa a1 c F = some o → o ∈ F := by
        intro F
        induction F with
        | nil => intro c o h; cases h
        | cons q F ih =>
          intro c o h
          unfold zfa at h
          split at h
          · cases h; simp
          · exact List.mem_cons_of_mem _ (ih _ _ h)
      have ho := pF_lt hp (hmem _ _ _ hz)
      have hne : ¬ nI o = -1 := fun z => nI_pos (n := o) (by omega) (by rw [z]; decide)
      show ∃ v t k2 b2 r r2, _ ∧ _ ∧ (if nI o = -1 then _ else _) = _
      rw [if_neg hne]
      exact ⟨_, _, _, _, _, _, rfl, Or.inr ⟨rfl, rfl⟩, rfl⟩
  · rw [if_neg c, if_neg c]
    exact ⟨_, _, _, _, _, _, rfl, hk, rfl⟩
theorem m_could (hp : zPok p) (hx : zPX p sets ways weighed steps unsure seen memory seenHit seenStep stepSpot stepWord unsureSpot unsureWord) (hm : zPM p ms mw mst mu msw mh mwg mat mli mma mme mpu msa mun) (hk : zFK p kn bi) :
    ∃ v t k2 b2 r r2, fX5_could 1 rf sets ways weighed steps unsure seen kn bi u1 u2 u3 u4 u5 u6 u7 u8 memory seenHit seenStep stepSpot stepWord unsureSpot unsureWord t1 t2 t3 t4 t5 t6 = some (v, t, k2, b2, r) ∧ zFK p k2 b2 ∧ fX7_could th tr wh s1 s2 s3 s4 s5 s6 s7 s8 s9 ms mw mst mu msw mh mwg od oi x mat mli mma mme mpu msa mun = some (v, 0, t, -1, r2) := by
  obtain ⟨r, f1⟩ := pX5_fitBits (s1 := u1) (s2 := u2) (s3 := u3) (s4 := u4) (s5 := u5) (s6 := u6) (s7 := u7) (s8 := u8) (t1 := t1) (t2 := t2) (t3 := t3) (t4 := t4) (t5 := t5) (t6 := t6) hp hx hk
  obtain ⟨w', v', b', od', hn', hs', ord', oi', x', g1, g2⟩ := pX7_fitting (a1 := -1) (w := s1) (v := s2) (b := s3) (od := s4) (hn := s5) (hs := s6) (fn := s7) (sn := s8) (en := s9) (ord := od) (oi := oi) (x := x) hp hm
  unfold fX5_could fX7_could
  have := pX5_could_loop (hc := 1) (sets := sets) (ways := ways) (weighed := weighed) (steps := steps) (unsure := unsure) (seen := seen) (memory := memory) (seenHit := seenHit) (seenStep := seenStep) (stepSpot := stepSpot) (stepWord := stepWord) (unsureSpot := unsureSpot) (unsureWord := unsureWord) (rf := rf) (kn := 1) (bi := nI (pB p)) (s1 := r.1) (s2 := r.2.1) (s3 := r.2.2.1) (s4 := r.2.2.2.1) (s5 := r.2.2.2.2.1) (s6 := r.2.2.2.2.2.1) (s7 := r.2.2.2.2.2.2.1) (s8 := r.2.2.2.2.2.2.2.1) (t1 := r.2.2.2.2.2.2.2.2.1) (t2 := r.2.2.2.2.2.2.2.2.2.1) (t3 := r.2.2.2.2.2.2.2.2.2.2.1) (t4 := r.2.2.2.2.2.2.2.2.2.2.2.1) (t5 := r.2.2.2.2.2.2.2.2.2.2.2.2.1) (t6 := r.2.2.2.2.2.2.2.2.2.2.2.2.2) (n := pB p) (pB_lt hp) 16 zF 0 0 (by omega) (zF_gt (by omega))
  rw [pB_run hp, show nI 0 = (0 : Int32) from rfl] at this
  rw [if_neg (show ¬ (1 : Int32) = 0 by decide), f1, Option.bind_some, this, g1, Option.bind_some]
  exact ⟨_, _, _, _, _, _, rfl, Or.inr ⟨rfl, rfl⟩, rfl⟩
theorem zfand {c : Nat} : ∀ {F : List Nat}, (∀ o ∈ F, o < 16) → ∀ {m m' : Int32}, (∀ o, o < 16 → (F ≠ [] → o ∈ F → True)) → F ≠ [] → (∀ o ∈ F, m &&& nI o = nI o) → (∀ o ∈ F, m' &&& nI o = nI o) → F.foldl (fun a o => a &&& nI o) m = F.foldl (fun a o => a &&& nI o) m'
  | [], _, _, _, _, h, _, _ => absurd rfl h
  | o :: F, _, m, m', _, _, h1, h2 => by
    show F.foldl _ (m &&& nI o) = F.foldl _ (m' &&& nI o)
    rw [h1 o List.mem_cons_self, h2 o List.mem_cons_self]
theorem m_surely (hp : zPok p) (hx : zPX p sets ways weighed steps unsure seen memory seenHit seenStep stepSpot stepWord unsureSpot unsureWord) (hm : zPM p ms mw mst mu msw mh mwg mat mli mma mme mpu msa mun) (hk : zFK p kn bi) :
    ∃ v t k2 b2 r r2, fX5_surely 1 rf sets ways weighed steps unsure seen kn bi u1 u2 u3 u4 u5 u6 u7 u8 memory seenHit seenStep stepSpot stepWord unsureSpot unsureWord t1 t2 t3 t4 t5 t6 = some (v, t, k2, b2, r) ∧ zFK p k2 b2 ∧ fX7_surely th tr wh s1 s2 s3 s4 s5 s6 s7 s8 s9 ms mw mst mu msw mh mwg od oi x mat mli mma mme mpu msa mun = some (v, 0, t, -1, r2) := by
  obtain ⟨r, f1⟩ := pX5_fitBits (s1 := u1) (s2 := u2) (s3 := u3) (s4 := u4) (s5 := u5) (s6 := u6) (s7 := u7) (s8 := u8) (t1 := t1) (t2 := t2) (t3 := t3) (t4 := t4) (t5 := t5) (t6 := t6) hp hx hk
  obtain ⟨w', v', b', od', hn', hs', ord', oi', x', g1, g2⟩ := pX7_fitting (a1 := -1) (w := s1) (v := s2) (b := s3) (od := s4) (hn := s5) (hs := s6) (fn := s7) (sn := s8) (en := s9) (ord := od) (oi := oi) (x := x) hp hm
  have hB := pB_lt hp
  have h16 := pF_len hp
  have hN := pN_le hp
  unfold fX5_surely fX7_surely
  have k1 := fun a => pX5_surely_loop (hc := 1) (sets := sets) (ways := ways) (weighed := weighed) (steps := steps) (unsure := unsure) (seen := seen) (memory := memory) (seenHit := seenHit) (seenStep := seenStep) (stepSpot := stepSpot) (stepWord := stepWord) (unsureSpot := unsureSpot) (unsureWord := unsureWord) (rf := rf) (kn := 1) (bi := nI (pB p)) (s1 := r.1) (s2 := r.2.1) (s3 := r.2.2.1) (s4 := r.2.2.2.1) (s5 := r.2.2.2.2.1) (s6 := r.2.2.2.2.2.1) (s7 := r.2.2.2.2.2.2.1) (s8 := r.2.2.2.2.2.2.2.1) (t1 := r.2.2.2.2.2.2.2.2.1) (t2 := r.2.2.2.2.2.2.2.2.2.1) (t3 := r.2.2.2.2.2.2.2.2.2.2.1) (t4 := r.2.2.2.2.2.2.2.2.2.2.2.1) (t5 := r.2.2.2.2.2.2.2.2.2.2.2.2.1) (t6 := r.2.2.2.2.2.2.2.2.2.2.2.2.2) (n := pB p) (pB_lt hp) 16 zF 0 a (by omega) (zF_gt (by omega))
  rw [pB_run hp, show nI 0 = (0 : Int32) from rfl] at k1
  rw [if_neg (show ¬ (1 : Int32) = 0 by decide), f1, Option.bind_some]
  by_cases c : pF p = []
  · have e0 : (if nI (pF p).length = 0 then (0 : Int32) else (pF p).foldl (fun a o => a &&& nI o) (nI (pN p) - 1)) = (pF p).foldl (fun a o => a &&& nI o) 0 := by rw [c]; rfl
    rw [e0] at g1
    rw [if_pos (show nI (pB p) = 0 by rw [(pB_0 hp).mpr c]; rfl), k1 0, g1, Option.bind_some]
    exact ⟨_, _, _, _, _, _, rfl, Or.inr ⟨rfl, rfl⟩, rfl⟩
  · have hl : 0 < (pF p).length := List.length_pos_iff.mpr c
    have hz : ¬ nI (pB p) = 0 := fun z => c ((pB_0 hp).mp ((nI_eq (a := pB p) (b := 0) (by omega) (by omega)).mp z))
    have e : (pF p).foldl (fun a o => a &&& nI o) (nI (pN p) - 1) = (pF p).foldl (fun a o => a &&& nI o) 15 := zfand (c := 0) (fun o ho => by have := pF_lt hp ho; omega) (fun _ _ _ _ => trivial) c (fun o ho => by
        have ho := pF_lt hp ho
        have hpos : 1 ≤ pN p := by omega
        rw [show nI (pN p) - 1 = nI (pN p - 1) from pk_sub (a := pN p) (b := 1) hpos, fa_and]
        unfold pN at ho ⊢
        rw [Nat.and_comm, Nat.and_two_pow_sub_one_eq_mod, Nat.mod_eq_of_lt ho]) (fun o ho => by
        have ho := pF_lt hp ho
        rw [show (15 : Int32) = nI (2 ^ 4 - 1) from rfl, fa_and, Nat.and_comm, Nat.and_two_pow_sub_one_eq_mod, Nat.mod_eq_of_lt (by omega)])
    rw [if_neg (nI_ne0 hl (by omega)), e] at g1
    rw [if_neg hz, k1 15, g1, Option.bind_some]
    exact ⟨_, _, _, _, _, _, rfl, Or.inr ⟨rfl, rfl⟩, rfl⟩
theorem m_ask (hp : zPok p) (hx : zPX p sets ways weighed steps unsure seen memory seenHit seenStep stepSpot stepWord unsureSpot unsureWord) (hm : zPM p ms mw mst mu msw mh mwg mat mli mma mme mpu msa mun) (hk : zFK p kn bi) :
    ∃ v t k2 b2 r r2, fX5_ask 1 rf sets ways weighed steps unsure seen kn bi u1 u2 u3 u4 u5 u6 u7 u8 memory seenHit seenStep stepSpot stepWord unsureSpot unsureWord t1 t2 t3 t4 t5 t6 = some (v, t, k2, b2, r) ∧ zFK p k2 b2 ∧ fX7_ask th tr wh s1 s2 s3 s4 s5 s6 s7 s8 s9 s10 ms mw mst mu msw mh mwg od oi x mat mli mma mme mpu msa mun = some (v, 0, t, -1, r2) := by
  obtain ⟨r, f1⟩ := pX5_fitBits (s1 := u1) (s2 := u2) (s3 := u3) (s4 := u4) (s5 := u5) (s6 := u6) (s7 := u7) (s8 := u8) (t1 := t1) (t2 := t2) (t3 := t3) (t4 := t4) (t5 := t5) (t6 := t6) hp hx hk
  obtain ⟨w', v', b', od', hn', hs', fn', sn', en', r2, g1⟩ := pX7_asks (w := s1) (v := s2) (b := s3) (od := s4) (hn := s5) (hs := s6) (fn := s7) (sn := s8) (en := s9) (al := s10) (ord := od) (oi := oi) (x := x) hp hm
  unfold fX5_ask fX7_ask
  have k1 := pX5_bestAsked hp
  rw [← hx.2.2.2.2.1] at k1
  rw [if_neg (show ¬ (1 : Int32) = 0 by decide), f1, Option.bind_some, k1, Option.bind_some, g1, Option.bind_some]
  exact ⟨_, _, _, _, _, _, rfl, Or.inr ⟨rfl, rfl⟩, rfl⟩
theorem m_askLeaves (hp : zPok p) (hx : zPX p sets ways weighed steps unsure seen memory seenHit seenStep stepSpot stepWord unsureSpot unsureWord) (hm : zPM p ms mw mst mu msw mh mwg mat mli mma mme mpu msa mun) (hk : zFK p kn bi) :
    ∃ v t k2 b2 r r2, fX5_askLeaves 1 rf sets ways weighed steps unsure seen kn bi u1 u2 u3 u4 u5 u6 u7 u8 memory seenHit seenStep stepSpot stepWord unsureSpot unsureWord t1 t2 t3 t4 t5 t6 = some (v, t, k2, b2, r) ∧ zFK p k2 b2 ∧ fX7_askLeaves th tr wh s1 s2 s3 s4 s5 s6 s7 s8 s9 s10 ms mw mst mu msw mh mwg od oi x mat mli mma mme mpu msa mun = some (v, 0, t, -1, r2) := by
  obtain ⟨r, f1⟩ := pX5_fitBits (s1 := u1) (s2 := u2) (s3 := u3) (s4 := u4) (s5 := u5) (s6 := u6) (s7 := u7) (s8 := u8) (t1 := t1) (t2 := t2) (t3 := t3) (t4 := t4) (t5 := t5) (t6 := t6) hp hx hk
  obtain ⟨w', v', b', od', hn', hs', fn', sn', en', r2, g1⟩ := pX7_asks (w := s1) (v := s2) (b := s3) (od := s4) (hn := s5) (hs := s6) (fn := s7) (sn := s8) (en := s9) (al := s10) (ord := od) (oi := oi) (x := x) hp hm
  unfold fX5_askLeaves fX7_askLeaves
  have k1 := pX5_bestAsked hp
  rw [← hx.2.2.2.2.1] at k1
  rw [if_neg (show ¬ (1 : Int32) = 0 by decide), f1, Option.bind_some, k1, Option.bind_some, g1, Option.bind_some]
  have hok := pAsk_ok hp
  cases hq : pAsk p with
  | none =>
    rw [if_neg (show ¬ (0 : Int32) ≤ zb1o none by decide)]
    exact ⟨_, _, _, _, _, _, rfl, Or.inr ⟨rfl, rfl⟩, rfl⟩
  | some q =>
    obtain ⟨u, w⟩ := q
    obtain ⟨h1, h2⟩ := hok u w hq
    rw [if_pos (show (0 : Int32) ≤ zb1o (some (u, w)) from nI_pos' (by omega)), show fX5_leftAtMost (nI (pB p), (1 : Int32), nI (pB p), r).1 (zb1o (some (u, w))) = some (nI (zlf (pF p) u)) from pX5_leftAtMost hp (by omega), Option.bind_some, show zb2o (-2) (some (u, w)) = nI w from rfl, h2]
    exact ⟨_, _, _, _, _, _, rfl, Or.inr ⟨rfl, rfl⟩, rfl⟩
theorem pX5_judge_loop (hp : zPok p) (hx : zPX p sets ways weighed steps unsure seen memory seenHit seenStep stepSpot stepWord unsureSpot unsureWord) {hc t : Int32} : ∀ (R P : List (Nat × Bool)) (N : Nat), P ++ R = pS p → R.length < N →
    fX5_judge_28 hc sets ways weighed steps unsure seen memory seenHit seenStep stepSpot stepWord unsureSpot unsureWord N t (nI P.length) rf u1 u2 u3 u4 u5 u6 u7 u8 t1 t2 t3 t4 t5 t6 = some (zov (-2) (zwr t P.length R), 0, u1, u2, u3, u4, u5, u6, u7, u8, t1, t2, t3, t4, t5, t6) := by
  have e6 := hx.2.2.2.2.2.1
  have e8 := hx.2.2.2.2.2.2.2.1
  have q7 := hp.2.2.2.2.2.2.1
  intro R
  induction R with
  | nil =>
    intro P N e hN
    obtain ⟨N, rfl⟩ : ∃ k, N = k + 1 := ⟨N - 1, by omega⟩
    rw [List.append_nil] at e
    rw [fX5_judge_28, if_pos (show seen ≤ nI P.length by rw [e6, e]; exact Int32.le_refl _)]
    rfl
  | cons s R ih =>
    intro P N e hN
    obtain ⟨sp, h⟩ := s
    obtain ⟨N, rfl⟩ : ∃ k, N = k + 1 := ⟨N - 1, by omega⟩
    have hlen : (pS p).length = P.length + R.length + 1 := by rw [← e]; simp; omega
    obtain ⟨x1, x2⟩ := e8 P.length (sp, h) (by rw [← e]; simp)
    have e' : (P ++ [(sp, h)]) ++ R = pS p := by rw [← e]; simp
    simp at hN
    have step := ih (P ++ [(sp, h)]) N e' (by omega)
    rw [show (P ++ [(sp, h)]).length = P.length + 1 by simp] at step
    rw [fX5_judge_28, if_neg (show ¬ seen ≤ nI P.length by rw [e6]; exact nI_ge (by omega) (by omega)), zald_n (by omega) (by omega), x1, zlet_e, zlet_e, zbt_v, zald_n (by omega) (by omega), x2, zlet_e, show nI P.length + 1 = nI (P.length + 1) from nI_1 _]
    unfold zwr
    by_cases c : zbt t sp = h
    · rw [if_pos (zbn_inj.mpr c), if_pos c]
      exact step
    · rw [if_neg (fun z => c (zbn_inj.mp z)), if_neg c]
      rfl
theorem m_judge (hp : zPok p) (hx : zPX p sets ways weighed steps unsure seen memory seenHit seenStep stepSpot stepWord unsureSpot unsureWord) (hm : zPM p ms mw mst mu msw mh mwg mat mli mma mme mpu msa mun) :
    ∃ v t r r2, fX5_judge 1 rf sets ways weighed steps unsure seen u1 u2 u3 u4 u5 u6 u7 u8 memory seenHit seenStep stepSpot stepWord unsureSpot unsureWord t1 t2 t3 t4 t5 t6 = some (v, t, r) ∧ fX7_judge th tr wh s1 s2 s3 s4 s5 s6 ms mw mst mu msw mh mwg od x mat mli mma mme mpu msa mun = some (v, 0, t, -1, r2) := by
  obtain ⟨a1, a2, a3, a4, c, r, f1⟩ := pX5_runTold (s1 := u1) (s2 := u2) (s3 := u3) (s4 := u4) (s5 := u5) (s6 := u6) (s7 := u7) (s8 := u8) (t1 := t1) (t2 := t2) (t3 := t3) (t4 := t4) (t5 := t5) (t6 := t6) (wy := pWy p) (pl := false) hp hx hp.1.2.2.1 hp.1.2.2.2
  obtain ⟨r2, f2⟩ := pX7_wrongSaw (o := 0) (s1 := s1) (s2 := s2) (s3 := s3) (s4 := s4) (s5 := s5) (s6 := s6) (x := x) (od := od) hp hm
  rw [← hx.2.1, show nI (zbn false) = 0 from rfl] at f1
  unfold fX5_judge fX7_judge
  have h6 := hp.2.2.2.2.2.2.1
  rw [if_neg (show ¬ (1 : Int32) = 0 by decide), f1, Option.bind_some, f2, Option.bind_some]
  exact ⟨_, _, _, _, pX5_judge_loop hp hx (pS p) [] zF rfl (zF_gt (by omega)), rfl⟩
end Q4
