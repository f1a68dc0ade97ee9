/-! ===== cache, both sides ===== -/
section CACHE2
variable {t n nc : Nat} {tp tq : Nat → Int32} {hc im rf ss sw sg sp sc sh sv sb kept cs cw cg cl cst cu cse kn te ta tk ts tv tf tpl rs rw' rg rp rc rh rv rb th tr wh m1 m2 m3 m4 m5 mf m6 ac ims m8 m9 m10 : Int32} {m7 : Int64} {sd sl sm ssh su sws cm csh css csp csw cta cus cuw rd rl rm rsh ru rws v0 x : Nat → Int32}
theorem m_cache (ht : zTape t tp tq) (hn : n ≤ t) (hnc : nc + 1 ≤ 600) :
    (∃ (p : zP) (nl : Nat) (ss2 sw2 sg2 sp2 sc2 sh2 sv2 sb2 kept2 cs2 cw2 cg2 cl2 cst2 cu2 cse2 te2 ta2 tk2 ts2 tv2 tpl2 rs2 rwq2 rg2 rp2 rc2 rh2 rv2 rb2 : Int32) (sd2 sm2 su2 sws2 cm2 csh2 css2 csp2 csw2 cta2 cus2 cuw2 rd2 rl2 rm2 rsh2 ru2 rws2 : Nat → Int32), zPok p ∧ fX5_cacheS (nI t) hc im rf ss sw sg sp sc sh sv sb kept cs cw cg cl cst cu cse kn tp te ta tk ts tv tf tpl sd sl sm ssh su sws rs rw' rg rp rc rh rv rb cm csh css csp csw cta cus cuw rd rl rm rsh ru rws (nI n) = some (nI (pL p).length, 0, 1, 0, 0, ss2, sw2, sg2, sp2, sc2, sh2, sv2, sb2, kept2, cs2, cw2, cg2, cl2, cst2, cu2, cse2, 0, te2, ta2, tk2, ts2, tv2, 0, tpl2, sd2, sm2, su2, sws2, rs2, rwq2, rg2, rp2, rc2, rh2, rv2, rb2, cm2, csh2, css2, csp2, csw2, cta2, cus2, cuw2, rd2, rl2, rm2, rsh2, ru2, rws2) ∧ zPX p cs2 cw2 cg2 cst2 cu2 cse2 cm2 csh2 css2 csp2 csw2 cus2 cuw2 ∧ cl2 = nI nl ∧ zAb (pSt p) (pWy p) (pWg p) (nc + 1) (aBeg (uMem 0 0 (pU p) (pM p))) [] ∧ (∀ kinds spots words : Nat → Int32, zCl (pSt p) (pWy p) (pWg p) (aBeg (uMem 0 0 (pU p) (pM p))) [] ss2 sw2 sg2 sp2 sc2 sd2 sl sm2 ssh su2 sws2 rs2 rwq2 rg2 rp2 rc2 rd2 rl2 rm2 rsh2 ru2 rws2 kept2 kinds spots words) ∧
      ∃ (b1 b2 b3 b4 b5 : Int32) (b6 : Int64) (b7 b8 b9 ms mw ml mt mst mu msw mh mg : Int32) (mat mli mma mme mpu msa mun v02 x2 : Nat → Int32), fX7_cacheS th tr wh (nI t) m1 m2 m3 m4 m5 mf m6 m7 ac ims m8 m9 m10 tq v0 x (nI n) = some (nI (pL p).length, 0, 0, -1, 0, nI n, b1, b2, b3, b4, 0, b5, b6, 0, 0, b7, b8, b9, ms, mw, ml, mt, mst, mu, msw, mh, mg, mat, mli, mma, mme, mpu, msa, mun, v02, x2) ∧ zPM p ms mw mst mu msw mh mg mat mli mma mme mpu msa mun ∧ ml = nI nl ∧ ∀ past, zMo (pSt p) (pWy p) (pWg p) (aBeg (uMem 0 0 (pU p) (pM p))) [] 0 past v02) ∨
    (∃ fl pos : Int32, 0 < fl ∧ (∃ a1 a2 a3 a4 a5 a6 a7 a8 a9 a10 a11 a12 a13 r, fX5_cacheF (nI t) rf cs cw cg cl cst cu cse kn tp te ta tk ts tv tf tpl cm csh css csp csw cta cus cuw (nI n) = some (-1, 0, 4, a1, a2, a3, a4, a5, a6, a7, a8, a9, a10, a11, a12, a13, fl, pos, r)) ∧ ∃ b1 b2 b3 b4 b5 r, fX7_cacheF th tr wh (nI t) m1 m2 m3 m4 m5 mf m6 m7 tq (nI n) = some (-1, 0, 4, pos, 0, b1, b2, b3, b4, b5, fl, pos, r)) := by
  have h12 := ht.1
  obtain ⟨sp1, so1, pl1, nu1, le1, g1, g2⟩ := parse_both ht hn (te := te) (ta := ta) (tk := tk) (ts := ts) (tv := tv) (tf := tf) (tpl := tpl) (cs := cs) (cw := cw) (cg := cg) (cl := cl) (cst := cst) (cu := cu) (cse := cse) (kn := kn) (pl := m4) (nu := m5) (wr := m6) (le := m7) (cm := cm) (csh := csh) (css := css) (csp := csp) (csw := csw) (cta := cta) (cus := cus) (cuw := cuw)
  have c0 : ¬ nI n < 0 := nI_pos (by omega)
  have c1 : nI n ≤ nI t := nI_le hn (by omega)
  rcases g2 with ⟨q', te', at', kd', sr', va', fp', cs', cw', cg', cl', cst', cu', cse', cm', csh', css', csp', csw', cta', cus', cuw', y1, y2, y3, y4, b1, b2, b3, b4, wr', b5, ms', mw', ml', mt', mst', mu', msw', mh', mg', mat', mli', mma', mme', mpu', msa', mun', y5, y6⟩ | ⟨fl, pos, f0, ⟨te', a1, a2, a3, a4, r, y1⟩, b1, b2, b3, b4, b5, r', y2⟩
  · left
    obtain ⟨⟨x1, x2, x3, x4, x5, x6, x7, x8, x9, x10⟩, cl1, -⟩ := y4
    obtain ⟨⟨w1, w2, w3, w4, w5, w6, w7, w8, w9, w10⟩, ml1, -, -⟩ := y6
    have hp := zQok_P y2 y3
    obtain ⟨d, m, u, ws, k1, k2⟩ := pX3_begin (st := pSt q'.1) (wy := pWy q'.1) (wg := pWg q'.1) (pl := false) (o := 0) (s1 := ss) (s2 := sw) (s3 := sg) (s4 := sp) (s5 := sc) (s6 := sh) (s7 := sv) (s8 := sb) (memory := sm) (used := su) (words := sws) (dirty := sd) hp.2.2.2.2.1 x10 hp.2.2.2.2.2.1 x7
    rw [← x1, ← x2, ← x3, ← x5, show (pWg q'.1 && !false) = pWg q'.1 by simp, ← x3, show nI (zbn false) = 0 from rfl] at k1
    have k2' := k2 (mkK (pSt q'.1) (pWy q'.1) (pWg q'.1) false) sl ssh
    obtain ⟨d2, la2, mm2, sh2', u2, ws2, k3, k4⟩ := pX3_copyOf (st := cs') (wy := cw') (cl := 0) (wg := pWg q'.1) (pl := false) (s1 := rs) (s2 := rw') (s3 := rg) (s4 := rp) (s5 := rc) (s6 := rh) (s7 := rv) (s8 := rb) (used' := ru) (last' := rl) (shape' := rsh) (dirty' := rd) (memory' := rm) (words' := rws) k2'
    rw [← x3, show nI (zbn false) = 0 from rfl] at k3
    obtain ⟨yy, j1, j2⟩ := pX7_asTold (x := x) (cw := mw') (o := 0) (s1 := m8) (s2 := m9) (s3 := m10) hp.2.2.2.2.1 w10 hp.2.2.2.2.2.1 w7
    rw [← w5] at j1
    obtain ⟨v02, j3, j4⟩ := pX7_remains (v0 := v0) j2
    have hI : zIA 10000 (aBeg (uMem 0 0 (pU q'.1) (pM q'.1))) := aBeg_I (uMem_ok hp.2.2.2.2.1 hp.2.2.2.1) (by decide)
    unfold fX5_cacheS fX7_cacheS fX0_forgetAll
    rw [if_neg c0, if_neg c0, if_pos c1, if_pos c1, y1, Option.bind_some, if_neg (show ¬ (1 : Int32) = 0 by decide)]
    rw [k1, Option.bind_some]
    rw [k3, Option.bind_some, Option.bind_some]
    rw [g1, Option.bind_some]
    rw [y5, Option.bind_some, if_pos (show (0 : Int32) ≤ 0 from Int32.le_refl _)]
    rw [j1, Option.bind_some]
    rw [j3, Option.bind_some]
    unfold fX5_pass fX7_good
    rw [Option.bind_some, Option.bind_some, x4, w4]
    have exC : ∀ kinds spots words : Nat → Int32, zCl (pSt q'.1) (pWy q'.1) (pWg q'.1) (aBeg (uMem 0 0 (pU q'.1) (pM q'.1))) [] cs' cw' cg' 0 0 d sl m ssh u ws cs' cw' cg' 0 0 d2 la2 mm2 sh2' u2 ws2 0 kinds spots words := fun kinds spots words => ⟨⟨x1, x2, x3, rfl, rfl, k2'⟩, ⟨x1, x2, x3, rfl, rfl, k4⟩, rfl, fun i z hz => absurd (show ([] : List zAc)[i]? = some z from hz) no_at⟩
    exact ⟨q'.1, q'.2.2, _, _, _, _, _, _, _, _, _, _, _, _, _, _, _, _, _, _, _, _, _, _, _, _, _, _, _, _, _, _, _, _, _, _, _, _, _, _, _, _, _, _, _, _, _, _, _, _, hp, rfl, ⟨x1, x2, x3, rfl, x5, x6, x7, x8, x9, x10⟩, cl1, ⟨hp.1, hI, aBeg_T, (fun z hz => nomatch hz), Nat.zero_le _, Nat.zero_le _, hnc⟩, exC, _, _, _, _, _, _, _, _, _, _, _, _, _, _, _, _, _, _, _, _, _, _, _, _, _, v02, _, rfl, ⟨w1, w2, w3, rfl, w5, w6, w7, w8, w9, w10⟩, ml1, fun past => ⟨⟨rfl, fun i hi => absurd hi (Nat.not_lt_zero i)⟩, j4⟩⟩
  · right
    unfold fX5_cacheF fX7_cacheF
    rw [if_neg c0, if_neg c0, if_pos c1, if_pos c1, y1, Option.bind_some, if_pos rfl]
    rw [g1, Option.bind_some]
    rw [y2, Option.bind_some, if_neg (show ¬ fl ≤ 0 from Int32.not_le.mpr f0)]
    exact ⟨fl, pos, f0, ⟨_, _, _, _, _, _, _, _, _, _, _, _, _, _, rfl⟩, _, _, _, _, _, _, rfl⟩
end CACHE2
