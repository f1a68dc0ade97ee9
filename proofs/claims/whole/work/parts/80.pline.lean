/-! ===== the parse: a line of any sort, the whole text ===== -/
abbrev zQt : Type := zP × (Nat → Bool) × Nat
def zQok (q : zQt) : Prop := pSt q.1 ≤ 4 ∧ (0 < pSt q.1 → zSW (pSt q.1) (pWy q.1)) ∧ zLok (pL q.1) ∧ (pL q.1).length ≤ 16 ∧ zMok (pM q.1) ∧ zUok (pU q.1) ∧ (pU q.1).length ≤ 4 ∧ (pS q.1).length ≤ 6 ∧ (∀ s ∈ pS q.1, s.1 < (pL q.1).length) ∧ q.2.2 ≤ 16
def zQC (q : zQt) (cs cw cg cl cst cu cse : Int32) (cm csh css csp csw cta cus cuw : Nat → Int32) : Prop := zPX q.1 cs cw cg cst cu cse cm csh css csp csw cus cuw ∧ cl = nI q.2.2 ∧ zTC q.2.1 cta
def zQM (q : zQt) (ms mw ml mt mst mu msw mh mg : Int32) (mat mli mma mme mpu msa mun : Nat → Int32) : Prop := zPM q.1 ms mw mst mu msw mh mg mat mli mma mme mpu msa mun ∧ ml = nI q.2.2 ∧ zTM q.2.1 mt ∧ ∀ i, (pS q.1).length ≤ i → i < 6 → zbt mh i = false
section PALL
variable {tp tq : Nat → Int32} {n : Nat} {C : Nat → Nat} {cs cw cg cl cst cu cse ms mw ml mt mst mu msw mh mg : Int32} {cm csh css csp csw cta cus cuw mat mli mma mme mpu msa mun : Nat → Int32}
theorem ln_line (h : zTx tp tq n C) {p s e k v : Nat} (T : zTk tp tq n p s e k v) {q : zQt} (hq : zQok q) (hc : zQC q cs cw cg cl cst cu cse cm csh css csp csw cta cus cuw) (hm : zQM q ms mw ml mt mst mu msw mh mg mat mli mma mme mpu msa mun) {va ff fp nu f w : Int32} {le : Int64} (hms : zMs k v nu le) :
    (∃ (p' : Nat) (q' : zQt) (kd' sr' va' cs' cw' cg' cl' cst' cu' cse' : Int32) (cm' csh' css' csp' csw' cta' cus' cuw' : Nat → Int32), fX4_tellLine (nI n) (nI e) (nI k) (nI s) va ff fp tp cs cw cg cl cst cu cse cm csh css csp csw cta cus cuw = some (1, nI p', kd', sr', va', ff, fp, cs', cw', cg', cl', cst', cu', cse', cm', csh', css', csp', csw', cta', cus', cuw') ∧ (e ≤ p' ∧ p' ≤ n) ∧ zQok q' ∧ 0 < pSt q'.1 ∧ zQC q' cs' cw' cg' cl' cst' cu' cse' cm' csh' css' csp' csw' cta' cus' cuw' ∧
      ∃ s' e' k' v', zTk tp tq n p' s' e' k' v' ∧ ∃ (nu' : Int32) (le' : Int64) (ms' mw' ml' mt' mst' mu' msw' mh' mg' : Int32) (mat' mli' mma' mme' mpu' msa' mun' : Nat → Int32), fX7_readLine (nI n) (nI e) (zks k) (nI s) nu f w le ms mw ml mt mst mu msw mh mg tq mat mli mma mme mpu msa mun = some (nI e', zks k', nI s', nu', f, w, le', ms', mw', ml', mt', mst', mu', msw', mh', mg', mat', mli', mma', mme', mpu', msa', mun') ∧ zMs k' v' nu' le' ∧ zQM q' ms' mw' ml' mt' mst' mu' msw' mh' mg' mat' mli' mma' mme' mpu' msa' mun') ∨
    (∃ fl pos : Int32, 0 < fl ∧ (∃ a1 a2 a3 a4 r, fX4_tellLine (nI n) (nI e) (nI k) (nI s) va ff fp tp cs cw cg cl cst cu cse cm csh css csp csw cta cus cuw = some (0, a1, a2, a3, a4, fl, pos, r)) ∧ ∃ b1 b2 b3 b4 r, fX7_readLine (nI n) (nI e) (zks k) (nI s) nu f w le ms mw ml mt mst mu msw mh mg tq mat mli mma mme mpu msa mun = some (b1, 5, b2, b3, fl, pos, b4, r)) := by
  have hk := T.2.2.2.2.2.2.2.1
  obtain ⟨⟨x1, x2, x3, x4, x5, x6, x7, x8, x9, x10⟩, cl1, cl2⟩ := hc
  obtain ⟨⟨y1, y2, y3, y4, y5, y6, y7, y8, y9, y10⟩, ml1, ml2, ml3⟩ := hm
  obtain ⟨o1, o2, o3, o4, o5, o6, o7, o8, o9, o10⟩ := hq
  subst x1 x2 x3 x4 x5 x6 cl1 y1 y2 y3 y4 y5 y6 ml1
  have A0 := nam T (j := 0) (j2 := 13) (by omega) (by omega) (by omega) rfl
  have A5 := nam T (j := 5) (j2 := 18) (by omega) (by omega) (by omega) rfl
  have A6 := nam T (j := 6) (j2 := 19) (by omega) (by omega) (by omega) rfl
  have A7 := nam T (j := 7) (j2 := 20) (by omega) (by omega) (by omega) rfl
  have A8 := nam T (j := 8) (j2 := 21) (by omega) (by omega) (by omega) rfl
  have A9 := nam T (j := 9) (j2 := 22) (by omega) (by omega) (by omega) rfl
  have f0 : zbi false = 0 := rfl
  have t0 : ¬ zbi true = 0 := by decide
  unfold fX4_tellLine fX7_readLine
  rw [A0.1, Option.bind_some, A0.2 nu le hms, Option.bind_some]
  by_cases c0 : k = 1 ∧ v = zpk 0
  · rw [decide_eq_true c0, if_neg t0, if_neg t0]
    unfold fX7_readCache
    by_cases cz : 0 < pSt q.1
    · rw [if_neg (nI_nle cz (by omega)), if_neg (nI_nle cz (by omega)), fln, Option.bind_some]
      unfold fX4_fail
      rw [Option.bind_some, show ∀ {β : Type} (K : Option β), zbl ((0 : Int32), (3 : Int32), nI s).1 K = K from fun K => zbl_n0]
      unfold fX7_readCache_15
      rw [g5, Option.bind_some]
      rw [rpt5, Option.bind_some]
      rw [rpt5, Option.bind_some]
      rw [iw5, Option.bind_some, if_pos rfl]
      rw [iw5, Option.bind_some, if_pos rfl]
      rw [fl5, Option.bind_some]
      unfold fX7_readCache_62
      rw [g5, Option.bind_some, if_pos rfl, Option.bind_some]
      exact Or.inr ⟨3, nI s, by decide, ⟨_, _, _, _, _, rfl⟩, _, _, _, _, _, rfl⟩
    · have e0 : pSt q.1 = 0 := by omega
      rw [e0, if_pos (show nI 0 ≤ 0 from Int32.le_refl _), if_pos (show nI 0 ≤ 0 from Int32.le_refl _)]
      rcases ln_cache h T (cs := nI 0) (cw := nI (pWy q.1)) (cg := nI (zbn (pWg q.1))) (kd := nI k) (sr := nI s) (va := va) (ff := ff) (fp := fp) (nu := nu) (f := f) (w := w) (le := le) with ⟨p', st, wy, wg, kd', sr', va', z1, z2, z3, s', e', k', v', T', nu', le', z4, z5⟩ | ⟨fl, pos, fp0, ⟨a1, a2, a3, a4, r, z1⟩, b1, b2, b3, b4, z2⟩
      · rw [z1, Option.bind_some, show ∀ {β : Type} (K : Option β), zbl (1, nI p', kd', sr', va', ff, fp, nI st, nI wy, nI (zbn wg)).1 K = K from fun K => zbl_n1, z4, Option.bind_some]
        exact Or.inl ⟨p', ((st, wy, wg, pL q.1, pM q.1, pU q.1, pS q.1), q.2), _, _, _, _, _, _, _, _, _, _, _, _, _, _, _, _, _, _, rfl, z2, ⟨z3.2.1, fun _ => z3, o3, o4, o5, o6, o7, o8, o9, o10⟩, z3.1, ⟨⟨rfl, rfl, rfl, rfl, rfl, rfl, x7, x8, x9, x10⟩, rfl, cl2⟩, s', e', k', v', T', nu', le', _, _, _, _, _, _, _, _, _, _, _, _, _, _, _, _, rfl, z5, ⟨⟨rfl, rfl, rfl, rfl, rfl, rfl, y7, y8, y9, y10⟩, rfl, ml2, ml3⟩⟩
      · rw [z1, Option.bind_some, show ∀ {β : Type} (K : Option β), zbl (0, a1, a2, a3, a4, fl, pos, r).1 K = K from fun K => zbl_n0, z2, Option.bind_some]
        exact Or.inr ⟨fl, pos, fp0, ⟨_, _, _, _, _, rfl⟩, _, _, _, _, _, rfl⟩
  · rw [decide_eq_false c0, if_pos f0, if_pos f0, A5.1, Option.bind_some, A5.2 nu le hms, Option.bind_some]
    by_cases c5 : k = 1 ∧ v = zpk 5
    · rw [decide_eq_true c5, if_neg t0, if_neg t0, show (16 : Int32) = nI 16 from rfl]
      rcases ln_told h T o1 (nl := q.2.2) o10 (mem := pM q.1) cl2 ml2 x7 y7 o5 (kd := nI k) (sr := nI s) (va := va) (ff := ff) (fp := fp) (nu := nu) (f := f) (w := w) (le := le) with ⟨p', mem', told', kd', sr', va', cm', ta', z0, z1, z2, z3, z4, z5, z6, z7, s', e', k', v', T', nu', le', td', mm', z8, z9, z10, z11⟩ | ⟨fl, pos, fp0, z1, b1, b2, b3, b4, r', z2⟩
      · rw [z0, Option.bind_some, if_neg (show ¬ (1 : Int32) = 0 by decide)]
        rw [z1, Option.bind_some, if_neg (show ¬ (1 : Int32) = 0 by decide), z8, Option.bind_some]
        exact Or.inl ⟨p', ((pSt q.1, pWy q.1, pWg q.1, pL q.1, mem', pU q.1, pS q.1), told', q.2.2 + 1), _, _, _, _, _, _, _, _, _, _, _, _, _, _, _, _, _, _, rfl, z3, ⟨o1, o2, o3, o4, z5, o6, o7, o8, o9, z4⟩, z2, ⟨⟨rfl, rfl, rfl, rfl, rfl, rfl, z6, x8, x9, x10⟩, rfl, z7⟩, s', e', k', v', T', nu', le', _, _, _, _, _, _, _, _, _, _, _, _, _, _, _, _, rfl, z9, ⟨⟨rfl, rfl, rfl, rfl, rfl, rfl, z10, y8, y9, y10⟩, rfl, z11, ml3⟩⟩
      · rw [z2, Option.bind_some]
        rcases z1 with z1 | ⟨z0, a1, a2, a3, a4, r, z1⟩
        · rw [z1, Option.bind_some, if_pos rfl]
          exact Or.inr ⟨fl, pos, fp0, ⟨_, _, _, _, _, rfl⟩, _, _, _, _, _, rfl⟩
        · rw [z0, Option.bind_some, if_neg (show ¬ (1 : Int32) = 0 by decide)]
          rw [z1, Option.bind_some, if_pos rfl]
          exact Or.inr ⟨fl, pos, fp0, ⟨_, _, _, _, _, rfl⟩, _, _, _, _, _, rfl⟩
    · rw [decide_eq_false c5, if_pos f0, if_pos f0, A6.1, Option.bind_some, A6.2 nu le hms, Option.bind_some]
      have STEP : ∀ wr : Bool, _ := fun wr : Bool => ln_step h T o1 o4 o3 x9 y9 wr (kd := nI k) (sr := nI s) (va := va) (ff := ff) (fp := fp) (nu := nu) (f := f) (w := w) (le := le)
      by_cases c6 : k = 1 ∧ v = zpk 6
      · rw [decide_eq_true c6, if_neg t0, if_neg t0, show (16 : Int32) = nI 16 from rfl]
        rcases STEP false with ⟨p', L', kd', sr', va', spot', word', z0, z1, z2, z3, z4, z5, z6, z7, s', e', k', v', T', nu', le', at2, line', put', z8, z9, z10⟩ | ⟨fl, pos, fp0, z1, b1, b2, b3, b4, r', z2⟩
        · rw [show nI (zbn false) = 0 from rfl] at z1 z8
          rw [z0, Option.bind_some, if_neg (show ¬ (1 : Int32) = 0 by decide)]
          rw [z1, Option.bind_some, if_neg (show ¬ (1 : Int32) = 0 by decide), z8, Option.bind_some]
          exact Or.inl ⟨p', ((pSt q.1, pWy q.1, pWg q.1, L', pM q.1, pU q.1, pS q.1), q.2), _, _, _, _, _, _, _, _, _, _, _, _, _, _, _, _, _, _, rfl, z3, ⟨o1, o2, z6, z4, o5, o6, o7, o8, fun x hx => Nat.lt_of_lt_of_le (o9 x hx) z5, o10⟩, z2, ⟨⟨rfl, rfl, rfl, rfl, rfl, rfl, x7, x8, z7, x10⟩, rfl, cl2⟩, s', e', k', v', T', nu', le', _, _, _, _, _, _, _, _, _, _, _, _, _, _, _, _, rfl, z9, ⟨⟨rfl, rfl, rfl, rfl, rfl, rfl, y7, y8, z10, y10⟩, rfl, ml2, ml3⟩⟩
        · rw [show nI (zbn false) = 0 from rfl] at z1 z2
          rw [z2, Option.bind_some]
          rcases z1 with z1 | ⟨z0, a1, a2, a3, a4, r, z1⟩
          · rw [z1, Option.bind_some, if_pos rfl]
            exact Or.inr ⟨fl, pos, fp0, ⟨_, _, _, _, _, rfl⟩, _, _, _, _, _, rfl⟩
          · rw [z0, Option.bind_some, if_neg (show ¬ (1 : Int32) = 0 by decide)]
            rw [z1, Option.bind_some, if_pos rfl]
            exact Or.inr ⟨fl, pos, fp0, ⟨_, _, _, _, _, rfl⟩, _, _, _, _, _, rfl⟩
      · rw [decide_eq_false c6, if_pos f0, if_pos f0, A7.1, Option.bind_some, A7.2 nu le hms, Option.bind_some]
        by_cases c7 : k = 1 ∧ v = zpk 7
        · rw [decide_eq_true c7, if_neg t0, if_neg t0, show (16 : Int32) = nI 16 from rfl]
          rcases STEP true with ⟨p', L', kd', sr', va', spot', word', z0, z1, z2, z3, z4, z5, z6, z7, s', e', k', v', T', nu', le', at2, line', put', z8, z9, z10⟩ | ⟨fl, pos, fp0, z1, b1, b2, b3, b4, r', z2⟩
          · rw [show nI (zbn true) = 1 from rfl] at z1 z8
            rw [z0, Option.bind_some, if_neg (show ¬ (1 : Int32) = 0 by decide)]
            rw [z1, Option.bind_some, if_neg (show ¬ (1 : Int32) = 0 by decide), z8, Option.bind_some]
            exact Or.inl ⟨p', ((pSt q.1, pWy q.1, pWg q.1, L', pM q.1, pU q.1, pS q.1), q.2), _, _, _, _, _, _, _, _, _, _, _, _, _, _, _, _, _, _, rfl, z3, ⟨o1, o2, z6, z4, o5, o6, o7, o8, fun x hx => Nat.lt_of_lt_of_le (o9 x hx) z5, o10⟩, z2, ⟨⟨rfl, rfl, rfl, rfl, rfl, rfl, x7, x8, z7, x10⟩, rfl, cl2⟩, s', e', k', v', T', nu', le', _, _, _, _, _, _, _, _, _, _, _, _, _, _, _, _, rfl, z9, ⟨⟨rfl, rfl, rfl, rfl, rfl, rfl, y7, y8, z10, y10⟩, rfl, ml2, ml3⟩⟩
          · rw [show nI (zbn true) = 1 from rfl] at z1 z2
            rw [z2, Option.bind_some]
            rcases z1 with z1 | ⟨z0, a1, a2, a3, a4, r, z1⟩
            · rw [z1, Option.bind_some, if_pos rfl]
              exact Or.inr ⟨fl, pos, fp0, ⟨_, _, _, _, _, rfl⟩, _, _, _, _, _, rfl⟩
            · rw [z0, Option.bind_some, if_neg (show ¬ (1 : Int32) = 0 by decide)]
              rw [z1, Option.bind_some, if_pos rfl]
              exact Or.inr ⟨fl, pos, fp0, ⟨_, _, _, _, _, rfl⟩, _, _, _, _, _, rfl⟩
        · rw [decide_eq_false c7, if_pos f0, if_pos f0, A8.1, Option.bind_some, A8.2 nu le hms, Option.bind_some]
          by_cases c8 : k = 1 ∧ v = zpk 8
          · rw [decide_eq_true c8, if_neg t0, if_neg t0, show (4 : Int32) = nI 4 from rfl]
            rcases ln_unsure h T o1 o7 o6 x10 y10 (kd := nI k) (sr := nI s) (va := va) (ff := ff) (fp := fp) (nu := nu) (f := f) (w := w) (le := le) with ⟨p', U', kd', sr', va', spot', word', z0, z1, z2, z3, z4, z6, z7, s', e', k', v', T', nu', le', may', unsure', z8, z9, z10⟩ | ⟨fl, pos, fp0, z1, b1, b2, b3, b4, r', z2⟩
            · rw [z0, Option.bind_some, if_neg (show ¬ (1 : Int32) = 0 by decide)]
              rw [z1, Option.bind_some, if_neg (show ¬ (1 : Int32) = 0 by decide), z8, Option.bind_some]
              exact Or.inl ⟨p', ((pSt q.1, pWy q.1, pWg q.1, pL q.1, pM q.1, U', pS q.1), q.2), _, _, _, _, _, _, _, _, _, _, _, _, _, _, _, _, _, _, rfl, z3, ⟨o1, o2, o3, o4, o5, z6, z4, o8, o9, o10⟩, z2, ⟨⟨rfl, rfl, rfl, rfl, rfl, rfl, x7, x8, x9, z7⟩, rfl, cl2⟩, s', e', k', v', T', nu', le', _, _, _, _, _, _, _, _, _, _, _, _, _, _, _, _, rfl, z9, ⟨⟨rfl, rfl, rfl, rfl, rfl, rfl, y7, y8, y9, z10⟩, rfl, ml2, ml3⟩⟩
            · rw [z2, Option.bind_some]
              rcases z1 with z1 | ⟨z0, a1, a2, a3, a4, r, z1⟩
              · rw [z1, Option.bind_some, if_pos rfl]
                exact Or.inr ⟨fl, pos, fp0, ⟨_, _, _, _, _, rfl⟩, _, _, _, _, _, rfl⟩
              · rw [z0, Option.bind_some, if_neg (show ¬ (1 : Int32) = 0 by decide)]
                rw [z1, Option.bind_some, if_pos rfl]
                exact Or.inr ⟨fl, pos, fp0, ⟨_, _, _, _, _, rfl⟩, _, _, _, _, _, rfl⟩
          · rw [decide_eq_false c8, if_pos f0, if_pos f0, A9.1, Option.bind_some, A9.2 nu le hms, Option.bind_some]
            by_cases c9 : k = 1 ∧ v = zpk 9
            · rw [decide_eq_true c9, if_neg t0, if_neg t0, show (6 : Int32) = nI 6 from rfl]
              rcases ln_saw h T o1 (sn := (pL q.1).length) o4 o8 o9 x8 ⟨y8, ml3⟩ (kd := nI k) (sr := nI s) (va := va) (ff := ff) (fp := fp) (nu := nu) (f := f) (w := w) (le := le) with ⟨p', S', kd', sr', va', shit', sstep', z0, z1, z2, z3, z4, z6, z7, s', e', k', v', T', nu', le', mhit', saw', z8, z9, z10⟩ | ⟨fl, pos, fp0, z1, b1, b2, b3, b4, r', z2⟩
              · rw [z0, Option.bind_some, if_neg (show ¬ (1 : Int32) = 0 by decide)]
                rw [z1, Option.bind_some, if_neg (show ¬ (1 : Int32) = 0 by decide), z8, Option.bind_some]
                exact Or.inl ⟨p', ((pSt q.1, pWy q.1, pWg q.1, pL q.1, pM q.1, pU q.1, S'), q.2), _, _, _, _, _, _, _, _, _, _, _, _, _, _, _, _, _, _, rfl, z3, ⟨o1, o2, o3, o4, o5, o6, o7, z4, z6, o10⟩, z2, ⟨⟨rfl, rfl, rfl, rfl, rfl, rfl, x7, z7, x9, x10⟩, rfl, cl2⟩, s', e', k', v', T', nu', le', _, _, _, _, _, _, _, _, _, _, _, _, _, _, _, _, rfl, z9, ⟨⟨rfl, rfl, rfl, rfl, rfl, rfl, y7, z10.1, y9, y10⟩, rfl, ml2, z10.2⟩⟩
              · rw [z2, Option.bind_some]
                rcases z1 with z1 | ⟨z0, a1, a2, a3, a4, r, z1⟩
                · rw [z1, Option.bind_some, if_pos rfl]
                  exact Or.inr ⟨fl, pos, fp0, ⟨_, _, _, _, _, rfl⟩, _, _, _, _, _, rfl⟩
                · rw [z0, Option.bind_some, if_neg (show ¬ (1 : Int32) = 0 by decide)]
                  rw [z1, Option.bind_some, if_pos rfl]
                  exact Or.inr ⟨fl, pos, fp0, ⟨_, _, _, _, _, rfl⟩, _, _, _, _, _, rfl⟩
            · rw [decide_eq_false c9, if_pos f0, if_pos f0, fln, Option.bind_some]
              unfold fX4_fail
              rw [Option.bind_some, show ∀ {β : Type} (K : Option β), zbl ((0 : Int32), (1 : Int32), nI s).1 K = K from fun K => zbl_n0]
              exact Or.inr ⟨1, nI s, by decide, ⟨_, _, _, _, _, rfl⟩, _, _, _, _, _, rfl⟩
end PALL
