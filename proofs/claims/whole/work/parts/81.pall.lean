/-! ===== the parse: the whole text ===== -/
section PALL2
variable {tp tq : Nat → Int32} {n : Nat} {C : Nat → Nat}
theorem over31 {c1 sp pl nu f w r1 r2 r3 r4 r5 r6 r7 r8 r9 : Int32} {le : Int64} {q1 q2 q3 q4 q5 q6 q7 : Nat → Int32} : ∃ b1 b2 b3 b4 b5 r, fX7_readAll_31 c1 tq sp 5 pl nu f w le r1 r2 r3 r4 r5 r6 r7 r8 r9 q1 q2 q3 q4 q5 q6 q7 = some (b1, b2, b3, b4, f, w, b5, r) := by
  unfold fX7_readAll_31
  by_cases c : r1 = 0
  · rw [if_pos c, fl5, Option.bind_some]; exact ⟨_, _, _, _, _, _, rfl⟩
  · rw [if_neg c]; exact ⟨_, _, _, _, _, _, rfl⟩
theorem all_loop (h : zTx tp tq n C) : ∀ (m N N2 p b4 s e k v : Nat) (q : zQt) (kd sr va ff fp kn nu f w cs cw cg cl cst cu cse ms mw ml mt mst mu msw mh mg : Int32) (le : Int64) (cm csh css csp csw cta cus cuw mat mli mma mme mpu msa mun : Nat → Int32), n - p ≤ m → m < N → m + 1 < N2 → p ≤ n → b4 ≤ p → zTk tp tq n p s e k v → zQok q → zQC q cs cw cg cl cst cu cse cm csh css csp csw cta cus cuw → zQM q ms mw ml mt mst mu msw mh mg mat mli mma mme mpu msa mun → zMs k v nu le →
    (∃ (q' : zQt) (at2 kd' sr' va' cs' cw' cg' cl' cst' cu' cse' : Int32) (cm' csh' css' csp' csw' cta' cus' cuw' : Nat → Int32), fX4_tellAll_40 tp N (nI b4) (nI n) (nI p) kd sr va ff fp cs cw cg cl cst cu cse kn cm csh css csp csw cta cus cuw = some (1, nI n, at2, kd', sr', va', ff, fp, cs', cw', cg', cl', cst', cu', cse', kn, cm', csh', css', csp', csw', cta', cus', cuw') ∧ zQok q' ∧ 0 < pSt q'.1 ∧ zQC q' cs' cw' cg' cl' cst' cu' cse' cm' csh' css' csp' csw' cta' cus' cuw' ∧
      ∃ (b1 b2 b3 b4 : Int32) (b5 : Int64) (ms' mw' ml' mt' mst' mu' msw' mh' mg' : Int32) (mat' mli' mma' mme' mpu' msa' mun' : Nat → Int32), fX7_readAll_2 (nI n) tq N2 1 (nI e) (zks k) (nI s) nu f w le ms mw ml mt mst mu msw mh mg mat mli mma mme mpu msa mun = some (b1, b2, b3, b4, f, w, b5, ms', mw', ml', mt', mst', mu', msw', mh', mg', mat', mli', mma', mme', mpu', msa', mun') ∧ zQM q' ms' mw' ml' mt' mst' mu' msw' mh' mg' mat' mli' mma' mme' mpu' msa' mun') ∨
    (∃ fl pos : Int32, 0 < fl ∧ (∃ a1 a2 a3 a4 r, fX4_tellAll_40 tp N (nI b4) (nI n) (nI p) kd sr va ff fp cs cw cg cl cst cu cse kn cm csh css csp csw cta cus cuw = some (0, nI n, a1, a2, a3, a4, fl, pos, r)) ∧ ∃ b1 b2 b3 b4 b5 r, fX7_readAll_2 (nI n) tq N2 1 (nI e) (zks k) (nI s) nu f w le ms mw ml mt mst mu msw mh mg mat mli mma mme mpu msa mun = some (b1, b2, b3, b4, fl, pos, b5, r)) := by
  have hn := h.1
  intro m
  induction m with
  | zero =>
    intro N N2 p b4 s e k v q kd sr va ff fp kn nu f w cs cw cg cl cst cu cse ms mw ml mt mst mu msw mh mg le cm csh css csp csw cta cus cuw mat mli mma mme mpu msa mun hm hN hN2 hp hb T hq hc hM hms
    obtain ⟨N, rfl⟩ : ∃ k, N = k + 1 := ⟨N - 1, by omega⟩
    obtain ⟨N2, rfl⟩ : ∃ k, N2 = k + 1 := ⟨N2 - 1, by omega⟩
    obtain ⟨N2, rfl⟩ : ∃ k, N2 = k + 1 := ⟨N2 - 1, by omega⟩
    obtain ⟨va1, x1, -⟩ := T.1 kd sr va
    have hpn : p = n := by omega
    have z1 := T.2.2.2.2
    rw [fX4_tellAll_40, if_neg (nI_nlt (by omega) (by omega)), x1, Option.bind_some, fX7_readAll_2, if_neg (show ¬ (1 : Int32) = 0 by decide)]
    rcases ln_line h T hq hc hM (va := va1) (ff := ff) (fp := fp) (f := f) (w := w) hms with ⟨p', q', kd', sr', va', cs', cw', cg', cl', cst', cu', cse', cm', csh', css', csp', csw', cta', cus', cuw', y1, y2, y3, y4, y5, s', e', k', v', T', nu', le', ms', mw', ml', mt', mst', mu', msw', mh', mg', mat', mli', mma', mme', mpu', msa', mun', y6, y7, y8⟩ | ⟨fl, pos, f0, ⟨a1, a2, a3, a4, r, y1⟩, b1, b2, b3, b5, r', y2⟩
    · have z2 := T'.2.2.2.2
      have hk' := T'.2.2.2.2.2.2.2.1
      obtain ⟨va2, x2, -⟩ := T'.1 kd' sr' va'
      rw [y1, Option.bind_some, if_neg (show ¬ (1 : Int32) = 0 by decide)]
      rw [x2, Option.bind_some, y6, Option.bind_some]
      unfold fX7_eatsSemicolon fX7_eatsSemicolon_13
      have hk3 : ¬ k' = 3 := fun z => by omega
      rw [if_neg (show ¬ zks k' = 4 from fun z => hk3 ((zks4 hk').mp z)), if_pos rfl, zbl_n0, Option.bind_some, fX7_readAll_2, if_pos rfl]
      by_cases c : k' = 0
      · rw [if_pos (show nI k' = 0 by rw [c]; rfl), if_pos (show zks k' = 1 by rw [c]; rfl)]
        unfold fX7_readAll_31
        rw [if_neg (show ¬ ms' = 0 by rw [y8.1.1]; exact nI_ne0 y4 (by have := y3.1; omega))]
        exact Or.inl ⟨q', _, _, _, _, _, _, _, _, _, _, _, _, _, _, _, _, _, _, _, rfl, y3, y4, y5, _, _, _, _, _, _, _, _, _, _, _, _, _, _, _, _, _, _, _, _, _, rfl, y8⟩
      · rw [if_neg (show ¬ nI k' = 0 from fun z => c ((nk (c := 0) hk' (by omega)).mp z)), if_neg (show ¬ nI k' = 3 from fun z => hk3 ((nk (c := 3) hk' (by omega)).mp z)), if_neg (show ¬ zks k' = 1 from fun z => c ((zks1 hk').mp z)), fln, Option.bind_some]
        unfold fX4_fail
        rw [Option.bind_some, show ∀ {β : Type} (K : Option β), zbl ((0 : Int32), (1 : Int32), nI s').1 K = K from fun K => zbl_n0]
        obtain ⟨b1, b2, b3, b5, b6, r, o1⟩ := over31 (tq := tq) (c1 := nI n) (sp := nI e') (pl := nI s') (nu := nu') (f := 1) (w := nI s') (le := le') (r1 := ms') (r2 := mw') (r3 := ml') (r4 := mt') (r5 := mst') (r6 := mu') (r7 := msw') (r8 := mh') (r9 := mg') (q1 := mat') (q2 := mli') (q3 := mma') (q4 := mme') (q5 := mpu') (q6 := msa') (q7 := mun')
        exact Or.inr ⟨1, nI s', by decide, ⟨_, _, _, _, _, rfl⟩, b1, b2, b3, b5, b6, r, o1⟩
    · rw [y1, Option.bind_some, if_pos rfl, y2, Option.bind_some]
      unfold fX7_eatsSemicolon fX7_eatsSemicolon_13
      rw [if_neg (show ¬ (5 : Int32) = 4 by decide), if_pos rfl, zbl_n0, Option.bind_some, fX7_readAll_2, if_pos rfl, if_neg (show ¬ (5 : Int32) = 1 by decide), fl5, Option.bind_some]
      obtain ⟨b1', b2', b3', b5', b6', r'', o1⟩ := over31 (tq := tq) (c1 := nI n) (sp := b1) (pl := b2) (nu := b3) (f := fl) (w := pos) (le := b5) (r1 := r'.1) (r2 := r'.2.1) (r3 := r'.2.2.1) (r4 := r'.2.2.2.1) (r5 := r'.2.2.2.2.1) (r6 := r'.2.2.2.2.2.1) (r7 := r'.2.2.2.2.2.2.1) (r8 := r'.2.2.2.2.2.2.2.1) (r9 := r'.2.2.2.2.2.2.2.2.1) (q1 := r'.2.2.2.2.2.2.2.2.2.1) (q2 := r'.2.2.2.2.2.2.2.2.2.2.1) (q3 := r'.2.2.2.2.2.2.2.2.2.2.2.1) (q4 := r'.2.2.2.2.2.2.2.2.2.2.2.2.1) (q5 := r'.2.2.2.2.2.2.2.2.2.2.2.2.2.1) (q6 := r'.2.2.2.2.2.2.2.2.2.2.2.2.2.2.1) (q7 := r'.2.2.2.2.2.2.2.2.2.2.2.2.2.2.2)
      exact Or.inr ⟨fl, pos, f0, ⟨_, _, _, _, _, rfl⟩, b1', b2', b3', b5', b6', r'', o1⟩
  | succ m ih =>
    intro N N2 p b4 s e k v q kd sr va ff fp kn nu f w cs cw cg cl cst cu cse ms mw ml mt mst mu msw mh mg le cm csh css csp csw cta cus cuw mat mli mma mme mpu msa mun hm hN hN2 hp hb T hq hc hM hms
    obtain ⟨N, rfl⟩ : ∃ k, N = k + 1 := ⟨N - 1, by omega⟩
    obtain ⟨N2, rfl⟩ : ∃ k, N2 = k + 1 := ⟨N2 - 1, by omega⟩
    obtain ⟨N3, rfl⟩ : ∃ k, N2 = k + 1 := ⟨N2 - 1, by omega⟩
    obtain ⟨va1, x1, -⟩ := T.1 kd sr va
    have z1 := T.2.2.2.2
    rw [fX4_tellAll_40, if_neg (nI_nlt (by omega) (by omega)), x1, Option.bind_some, fX7_readAll_2, if_neg (show ¬ (1 : Int32) = 0 by decide)]
    rcases ln_line h T hq hc hM (va := va1) (ff := ff) (fp := fp) (f := f) (w := w) hms with ⟨p', q', kd', sr', va', cs', cw', cg', cl', cst', cu', cse', cm', csh', css', csp', csw', cta', cus', cuw', y1, y2, y3, y4, y5, s', e', k', v', T', nu', le', ms', mw', ml', mt', mst', mu', msw', mh', mg', mat', mli', mma', mme', mpu', msa', mun', y6, y7, y8⟩ | ⟨fl, pos, f0, ⟨a1, a2, a3, a4, r, y1⟩, b1, b2, b3, b5, r', y2⟩
    · have z2 := T'.2.2.2.2
      have hk' := T'.2.2.2.2.2.2.2.1
      obtain ⟨va2, x2, -⟩ := T'.1 kd' sr' va'
      rw [y1, Option.bind_some, if_neg (show ¬ (1 : Int32) = 0 by decide)]
      rw [x2, Option.bind_some, y6, Option.bind_some]
      unfold fX7_eatsSemicolon fX7_eatsSemicolon_13
      by_cases k3 : k' = 3
      · rw [if_pos (show zks k' = 4 by rw [k3]; rfl), if_neg (show ¬ (1 : Int32) = 0 by decide)]
        obtain ⟨s2, e2, k2, v2, T2, nu2, le2, g2, m2⟩ := gon h (k := k') T'.2.2.2.2.2.2.1 (pl := nI s') (nu := nu') (le := le')
        have hse := z2.2.2.2.2 k3
        rw [g2, Option.bind_some, zbl_n1, Option.bind_some, if_neg (show ¬ nI k' = 0 by rw [k3]; decide), if_pos (show nI k' = 3 by rw [k3]; rfl), zlet_e, show nI b4 + 1 = nI (b4 + 1) from nI_1 _]
        exact ih N (N3 + 1) e' (b4 + 1) s2 e2 k2 v2 q' _ _ _ ff fp kn nu2 f w _ _ _ _ _ _ _ _ _ _ _ _ _ _ _ _ le2 _ _ _ _ _ _ _ _ _ _ _ _ _ _ _ (by omega) (by omega) (by omega) (by omega) (by omega) T2 y3 y5 y8 m2
      · rw [if_neg (show ¬ zks k' = 4 from fun z => k3 ((zks4 hk').mp z)), if_pos rfl, zbl_n0, Option.bind_some, fX7_readAll_2, if_pos rfl]
        by_cases c : k' = 0
        · rw [if_pos (show nI k' = 0 by rw [c]; rfl), if_pos (show zks k' = 1 by rw [c]; rfl)]
          unfold fX7_readAll_31
          rw [if_neg (show ¬ ms' = 0 by rw [y8.1.1]; exact nI_ne0 y4 (by have := y3.1; omega))]
          exact Or.inl ⟨q', _, _, _, _, _, _, _, _, _, _, _, _, _, _, _, _, _, _, _, rfl, y3, y4, y5, _, _, _, _, _, _, _, _, _, _, _, _, _, _, _, _, _, _, _, _, _, rfl, y8⟩
        · rw [if_neg (show ¬ nI k' = 0 from fun z => c ((nk (c := 0) hk' (by omega)).mp z)), if_neg (show ¬ nI k' = 3 from fun z => k3 ((nk (c := 3) hk' (by omega)).mp z)), if_neg (show ¬ zks k' = 1 from fun z => c ((zks1 hk').mp z)), fln, Option.bind_some]
          unfold fX4_fail
          rw [Option.bind_some, show ∀ {β : Type} (K : Option β), zbl ((0 : Int32), (1 : Int32), nI s').1 K = K from fun K => zbl_n0]
          obtain ⟨b1, b2, b3, b5, b6, r, o1⟩ := over31 (tq := tq) (c1 := nI n) (sp := nI e') (pl := nI s') (nu := nu') (f := 1) (w := nI s') (le := le') (r1 := ms') (r2 := mw') (r3 := ml') (r4 := mt') (r5 := mst') (r6 := mu') (r7 := msw') (r8 := mh') (r9 := mg') (q1 := mat') (q2 := mli') (q3 := mma') (q4 := mme') (q5 := mpu') (q6 := msa') (q7 := mun')
          exact Or.inr ⟨1, nI s', by decide, ⟨_, _, _, _, _, rfl⟩, b1, b2, b3, b5, b6, r, o1⟩
    · rw [y1, Option.bind_some, if_pos rfl, y2, Option.bind_some]
      unfold fX7_eatsSemicolon fX7_eatsSemicolon_13
      rw [if_neg (show ¬ (5 : Int32) = 4 by decide), if_pos rfl, zbl_n0, Option.bind_some, fX7_readAll_2, if_pos rfl, if_neg (show ¬ (5 : Int32) = 1 by decide), fl5, Option.bind_some]
      obtain ⟨b1', b2', b3', b5', b6', r'', o1⟩ := over31 (tq := tq) (c1 := nI n) (sp := b1) (pl := b2) (nu := b3) (f := fl) (w := pos) (le := b5) (r1 := r'.1) (r2 := r'.2.1) (r3 := r'.2.2.1) (r4 := r'.2.2.2.1) (r5 := r'.2.2.2.2.1) (r6 := r'.2.2.2.2.2.1) (r7 := r'.2.2.2.2.2.2.1) (r8 := r'.2.2.2.2.2.2.2.1) (r9 := r'.2.2.2.2.2.2.2.2.1) (q1 := r'.2.2.2.2.2.2.2.2.2.1) (q2 := r'.2.2.2.2.2.2.2.2.2.2.1) (q3 := r'.2.2.2.2.2.2.2.2.2.2.2.1) (q4 := r'.2.2.2.2.2.2.2.2.2.2.2.2.1) (q5 := r'.2.2.2.2.2.2.2.2.2.2.2.2.2.1) (q6 := r'.2.2.2.2.2.2.2.2.2.2.2.2.2.2.1) (q7 := r'.2.2.2.2.2.2.2.2.2.2.2.2.2.2.2)
      exact Or.inr ⟨fl, pos, f0, ⟨_, _, _, _, _, rfl⟩, b1', b2', b3', b5', b6', r'', o1⟩
end PALL2
