/-! ===== the parse: line, cache ===== -/
section PTOLD
variable {tp tq : Nat → Int32} {n : Nat} {C : Nat → Nat}
theorem over54 {c1 c2 b1 : Int32} : ∀ (m N i : Nat) (sp pl nu f w ln td : Int32) (le : Int64) (me : Nat → Int32), i + m = 8 → m < N → ∃ x1 x2 x3 x4 r, fX7_readTold_54 c1 c2 tq N b1 (nI i) sp 5 pl nu f w le ln td me = some (x1, 5, x2, x3, f, w, x4, r) := by
  intro m
  induction m with
  | zero =>
    intro N i sp pl nu f w ln td le me e hN
    obtain ⟨N, rfl⟩ : ∃ k, N = k + 1 := ⟨N - 1, by omega⟩
    rw [fX7_readTold_54, if_pos (n8 (by omega) (by omega)), if_pos rfl]
    exact ⟨_, _, _, _, _, rfl⟩
  | succ m ih =>
    intro N i sp pl nu f w ln td le me e hN
    obtain ⟨N, rfl⟩ : ∃ k, N = k + 1 := ⟨N - 1, by omega⟩
    rw [fX7_readTold_54, if_neg (n8' (by omega)), rw5, Option.bind_some, if_pos rfl, zlet_e, show nI i + 1 = nI (i + 1) from nI_1 _]
    exact ih N (i + 1) _ _ _ _ _ _ _ _ _ (by omega) (by omega)
theorem told_loop (h : zTx tp tq n C) {l nl : Nat} (hl : l < 32) {ff fp f w td rs : Int32} {ta : Nat → Int32} : ∀ (m N N2 i p s e k v : Nat) (kd sr va nu : Int32) (le : Int64) (cm mm mem : Nat → Int32), i + m = 8 → m < N → m < N2 → zTk tp tq n p s e k v → zMs k v nu le → (∀ j, j < 256 → cm j = mem j) → (∀ j, j < 256 → mm j = mem j) → zMok mem →
    (∃ (p' : Nat) (mem' : Nat → Int32) (kd' sr' va' : Int32) (cm' : Nat → Int32), fX4_tellWords_38 (nI n) tp N (nI l) (nI i) (nI p) kd sr va ff fp (nI nl) cm ta = some (1, nI p', kd', sr', va', ff, fp, nI (nl + 1), cm', upd ta l 1) ∧ (p ≤ p' ∧ p' ≤ n) ∧ zMok mem' ∧ (∀ j, j < 256 → cm' j = mem' j) ∧
      ∃ s' e' k' v', zTk tp tq n p' s' e' k' v' ∧ ∃ nu' le' mm', fX7_readTold_54 (nI n) rs tq N2 (nI l) (nI i) (nI e) (zks k) (nI s) nu f w le (nI nl) td mm = some (nI e', zks k', nI s', nu', f, w, le', nI (nl + 1), td ||| ((1 : Int32) <<< (nI l &&& 31)), mm') ∧ zMs k' v' nu' le' ∧ ∀ j, j < 256 → mm' j = mem' j) ∨
    (∃ fl pos : Int32, 0 < fl ∧ (∃ a1 a2 a3 a4 r, fX4_tellWords_38 (nI n) tp N (nI l) (nI i) (nI p) kd sr va ff fp (nI nl) cm ta = some (0, a1, a2, a3, a4, fl, pos, r)) ∧
      ∃ b1 b2 b3 b4 r, fX7_readTold_54 (nI n) rs tq N2 (nI l) (nI i) (nI e) (zks k) (nI s) nu f w le (nI nl) td mm = some (b1, 5, b2, b3, fl, pos, b4, r)) := by
  intro m
  induction m with
  | zero =>
    intro N N2 i p s e k v kd sr va nu le cm mm mem e8 hN hN2 T hms h1 h2 h3
    obtain ⟨N, rfl⟩ : ∃ k, N = k + 1 := ⟨N - 1, by omega⟩
    obtain ⟨N2, rfl⟩ : ∃ k, N2 = k + 1 := ⟨N2 - 1, by omega⟩
    have hpn : p ≤ n := by have := T.2.2.2.2; omega
    rw [fX4_tellWords_38, if_pos (n8 (by omega) (by omega)), zast_n hl (by omega), zlet_e, fX7_readTold_54, if_pos (n8 (by omega) (by omega)), if_neg (zks_ne5 k), zlet_e, zlet_e, zlet_e, show nI nl + 1 = nI (nl + 1) from nI_1 _]
    exact Or.inl ⟨p, mem, _, _, _, _, rfl, ⟨Nat.le_refl _, hpn⟩, h3, h1, s, e, k, v, T, nu, le, _, rfl, hms, h2⟩
  | succ m ih =>
    intro N N2 i p s e k v kd sr va nu le cm mm mem e8 hN hN2 T hms h1 h2 h3
    obtain ⟨N, rfl⟩ : ∃ k, N = k + 1 := ⟨N - 1, by omega⟩
    obtain ⟨N2, rfl⟩ : ∃ k, N2 = k + 1 := ⟨N2 - 1, by omega⟩
    rw [fX4_tellWords_38, if_neg (n8' (by omega)), fX7_readTold_54, if_neg (n8' (by omega)), show (65535 : Int32) = nI 65535 from rfl, show (0 : Int32) = nI 0 from rfl]
    rcases twr h T (lo := 0) (hi := 65535) (by omega) (by omega) with ⟨⟨d1, -, d2⟩, x1, x2⟩ | ⟨fl, f0, x1, x2⟩
    · obtain ⟨s2, e2, k2, v2, T2, nu2, le2, g2, m2⟩ := x2 nu le f w hms
      rw [x1 kd sr va ff fp, Option.bind_some, if_neg (show ¬ (1 : Int32) = nI 0 by decide), g2, Option.bind_some, if_neg (zks_ne5 k2)]
      simp only [zlet_e]
      rw [show nI l * 8 = nI (l * 8) from pk_mul l 8, show (8 : Int32) * nI l = nI (8 * l) from pk_mul 8 l, nI_add, nI_add, zast_n (f := cm) (by omega) (by omega), zast_n (f := mm) (by omega) (by omega), show nI i + 1 = nI (i + 1) from nI_1 _]
      have hup : ∀ (g : Nat → Int32), (∀ j, j < 256 → g j = mem j) → ∀ j, j < 256 → upd g (l * 8 + i) (nI v) j = wup mem (l * 8 + i) (nI v) j := fun g hg j hj => by
        unfold wup
        by_cases q : j = l * 8 + i
        · rw [q, pk_us, if_pos rfl]
        · rw [pk_un q, if_neg q]; exact hg j hj
      have h2' := hup mm h2
      rw [show 8 * l + i = l * 8 + i by omega]
      have IH := ih N N2 (i + 1) e s2 e2 k2 v2 (nI k) (nI s) (nI v) nu2 le2 (upd cm (l * 8 + i) (nI v)) (upd mm (l * 8 + i) (nI v)) (wup mem (l * 8 + i) (nI v)) (by omega) (by omega) (by omega) T2 m2 (hup cm h1) h2' (fun j hj => by
        unfold wup
        split
        · exact ⟨v, by omega, rfl⟩
        · exact h3 j hj)
      rcases IH with ⟨p', mem', kd', sr', va', cm', z1, z2, z3⟩ | IH
      · exact Or.inl ⟨p', mem', kd', sr', va', cm', z1, ⟨by have z4 := T.2.2.2.2; omega, z2.2⟩, z3⟩
      · exact Or.inr IH
    · obtain ⟨va', x1⟩ := x1 kd sr va ff fp
      rw [x1, Option.bind_some, if_pos (show (0 : Int32) = nI 0 from rfl), x2 nu le f w hms, Option.bind_some, if_pos (show (5 : Int32) = 5 from rfl), zlet_e, show nI i + 1 = nI (i + 1) from nI_1 _]
      obtain ⟨b1, b2, b3, b4, r, o1⟩ := over54 (c1 := nI n) (c2 := rs) (b1 := nI l) m N2 (i + 1) (nI e) (nI s) nu fl (nI s) (nI nl) td le mm (by omega) (by omega)
      exact Or.inr ⟨fl, nI s, f0, ⟨_, _, _, _, _, rfl⟩, b1, b2, b3, b4, r, o1⟩
/-- lines told -/
def zTC (told : Nat → Bool) (ta : Nat → Int32) : Prop := ∀ l, l < 32 → ta l = nI (zbn (told l))
def zTM (told : Nat → Bool) (td : Int32) : Prop := ∀ l, l < 32 → zbt td l = told l
theorem ln_told (h : zTx tp tq n C) {p s e k v st : Nat} (T : zTk tp tq n p s e k v) (hs : st ≤ 4) {nl : Nat} (hnl : nl ≤ 16) {told : Nat → Bool} {mem cm mm ta : Nat → Int32} {td : Int32} (hta : zTC told ta) (htd : zTM told td) (h1 : ∀ j, j < 256 → cm j = mem j) (h2 : ∀ j, j < 256 → mm j = mem j) (h3 : zMok mem) {kd sr va ff fp nu f w : Int32} {le : Int64} :
    (∃ (p' : Nat) (mem' : Nat → Int32) (told' : Nat → Bool) (kd' sr' va' : Int32) (cm' ta' : Nat → Int32), fX4_hasRoom (nI s) ff fp (nI st) (nI nl) (nI 16) = some (1, ff, fp) ∧ fX4_tellWords (nI n) (nI e) kd sr va ff fp tp (nI nl) cm ta = some (1, nI p', kd', sr', va', ff, fp, nI (nl + 1), cm', ta') ∧ 0 < st ∧ (e ≤ p' ∧ p' ≤ n) ∧ nl + 1 ≤ 16 ∧ zMok mem' ∧ (∀ j, j < 256 → cm' j = mem' j) ∧ zTC told' ta' ∧
      ∃ s' e' k' v', zTk tp tq n p' s' e' k' v' ∧ ∃ nu' le' td' mm', fX7_readTold (nI n) (nI e) (zks k) (nI s) nu f w le (nI st) (nI nl) td tq mm = some (nI e', zks k', nI s', nu', f, w, le', nI (nl + 1), td', mm') ∧ zMs k' v' nu' le' ∧ (∀ j, j < 256 → mm' j = mem' j) ∧ zTM told' td') ∨
    (∃ fl pos : Int32, 0 < fl ∧ ((fX4_hasRoom (nI s) ff fp (nI st) (nI nl) (nI 16) = some (0, fl, pos)) ∨ (fX4_hasRoom (nI s) ff fp (nI st) (nI nl) (nI 16) = some (1, ff, fp) ∧ ∃ a1 a2 a3 a4 r, fX4_tellWords (nI n) (nI e) kd sr va ff fp tp (nI nl) cm ta = some (0, a1, a2, a3, a4, fl, pos, r))) ∧
      ∃ b1 b2 b3 b4 r, fX7_readTold (nI n) (nI e) (zks k) (nI s) nu f w le (nI st) (nI nl) td tq mm = some (b1, 5, b2, b3, fl, pos, b4, r)) := by
  have over48 : ∀ (c1 c2 x sp pl nu f w a b : Int32) (le : Int64) (me : Nat → Int32), ∃ b1 b2 b3 b4 r, fX7_readTold_48 c1 c2 tq x sp 5 pl nu f w le a b me = some (b1, 5, b2, b3, f, w, b4, r) := fun c1 c2 x sp pl nu f w a b le me => by
    unfold fX7_readTold_48
    rw [g5, Option.bind_some]
    exact over54 8 zF 0 _ _ _ _ _ _ _ _ _ (by omega) (zF_gt (by omega))
  rcases rom h T hs (show 16 ≤ 16 by omega) hnl with ⟨⟨c1, c2⟩, r1, r2⟩ | ⟨fl, f0, r1, r2⟩
  · have r1 := r1 ff fp
    obtain ⟨s1, e1, k1, v1, T1, nu1, le1, g1, m1⟩ := r2 nu le f w
    unfold fX7_readTold
    rw [show (16 : Int32) = nI 16 from rfl, g1, Option.bind_some]
    unfold fX4_tellWords
    rw [show (0 : Int32) = nI 0 from rfl, show (31 : Int32) = nI 31 from rfl]
    rcases twn T1 (lo := 0) (hi := 31) (by omega) (by omega) with ⟨⟨d1, -, d2⟩, x1, x2⟩ | ⟨fl, f0, x1, x2⟩
    · rw [x1 kd sr va ff fp, Option.bind_some, if_neg (show ¬ (1 : Int32) = nI 0 by decide), zald_n (f := ta) (show v1 < 32 by omega) (by omega), hta v1 (by omega)]
      rw [x2 nu1 le1 f w m1, Option.bind_some, if_neg (zks_ne5 k1), pX7_bit, Option.bind_some, htd v1 (by omega)]
      cases ct : told v1 with
      | true =>
        rw [if_pos (show nI (zbn true) = 1 from rfl), if_neg (show ¬ zbi true = nI 0 by decide), fln, Option.bind_some]
        unfold fX4_fail
        rw [Option.bind_some, show ∀ {β : Type} (K : Option β), zbl (0, (3 : Int32), (1, nI e1, nI k1, nI s1, nI v1, ff, fp).2.2.2.1).1 K = K from fun K => zbl_n0]
        obtain ⟨b1, b2, b3, b4, r, o1⟩ := over48 (nI n) (nI st) (nI v1) (nI e1) (nI s1) nu1 3 (nI s1) (nI nl) td le1 mm
        exact Or.inr ⟨3, nI s1, by decide, Or.inr ⟨r1, _, _, _, _, _, rfl⟩, b1, b2, b3, b4, r, o1⟩
      | false =>
        rw [if_neg (show ¬ nI (zbn false) = 1 by decide), if_pos (show zbi false = nI 0 from rfl)]
        obtain ⟨s2, e2, k2, v2, T2, nu2, le2, g2, m2⟩ := gon h (k := k1) T1.2.2.2.2.2.2.1 (pl := nI s1) (nu := nu1) (le := le1)
        unfold fX7_readTold_48
        rw [g2, Option.bind_some]
        rcases told_loop h (l := v1) (nl := nl) (by omega) (ff := ff) (fp := fp) (f := f) (w := w) (td := td) (rs := nI st) (ta := ta) 8 zF zF 0 e1 s2 e2 k2 v2 (nI k1) (nI s1) (nI v1) nu2 le2 cm mm mem (by omega) (zF_gt (by omega)) (zF_gt (by omega)) T2 m2 h1 h2 h3 with ⟨p', mem', kd', sr', va', cm', y1, y2, y3, y4, s', e', k', v', T', nu', le', mm', y5, y6, y7⟩ | ⟨fl, pos, f0, ⟨a1, a2, a3, a4, r, y1⟩, b1, b2, b3, b4, r', y2⟩
        · refine Or.inl ⟨p', mem', fun q => told q || decide (v1 = q), kd', sr', va', cm', _, r1, y1, c2, ⟨by have z1 := T1.2.2.2.2; omega, y2.2⟩, by omega, y3, y4, fun q hq => ?_, s', e', k', v', T', nu', le', _, mm', y5, y6, y7, fun q hq => ?_⟩
          · by_cases z : q = v1
            · rw [z, pk_us]; simp [zbn]; rfl
            · rw [pk_un z, hta q hq]
              show nI (zbn (told q)) = nI (zbn (told q || decide (v1 = q)))
              rw [decide_eq_false (show ¬ v1 = q from fun y => z y.symm), Bool.or_false]
          · rw [zbt_or (by omega) hq, htd q hq]
        · exact Or.inr ⟨fl, pos, f0, Or.inr ⟨r1, a1, a2, a3, a4, r, y1⟩, b1, b2, b3, b4, r', y2⟩
    · obtain ⟨va', x1⟩ := x1 kd sr va ff fp
      rw [x1, Option.bind_some, if_pos (show (0 : Int32) = nI 0 from rfl), x2 nu1 le1 f w m1, Option.bind_some, if_pos (show (5 : Int32) = 5 from rfl)]
      obtain ⟨b1, b2, b3, b4, r, o1⟩ := over48 (nI n) (nI st) (nI 0) (nI e1) (nI s1) nu1 fl (nI s1) (nI nl) td le1 mm
      exact Or.inr ⟨fl, nI s1, f0, Or.inr ⟨r1, _, _, _, _, _, rfl⟩, b1, b2, b3, b4, r, o1⟩
  · refine Or.inr ⟨fl, nI s, f0, Or.inl (r1 ff fp), ?_⟩
    unfold fX7_readTold
    rw [show (16 : Int32) = nI 16 from rfl, r2 nu le f w, Option.bind_some]
    rw [wa5, Option.bind_some, if_pos (show (5 : Int32) = 5 from rfl)]
    exact over48 _ _ _ _ _ _ _ _ _ _ _ _
/-- a name that is wanted and a whole behind it, both sides -/
theorem npt (h : zTx tp tq n C) {p s e k v j j2 : Nat} (T : zTk tp tq n p s e k v) (hj : j < 12) (hj2 : j2 < 25) (h12 : j2 ≠ 12) (hz : zsc j = zsc j2) {kd sr va ff fp nu f w : Int32} {le : Int64} (hms : zMs k v nu le) :
    (∃ (s1 e1 v1 : Nat) (kd1 sr1 va1 : Int32), fX4_takeName j (nI n) (nI p) kd sr va ff fp tp = some (1, nI e, kd1, sr1, va1, ff, fp) ∧ (1 ≤ v1 ∧ v1 ≤ 4 ∧ e1 ≤ n ∧ p ≤ e1) ∧ (∃ kd2 sr2, fX4_takeWithin (nI n) (nI e) kd1 sr1 va1 ff fp tp 1 4 = some (1, nI e1, kd2, sr2, nI v1, ff, fp)) ∧
      ∃ s' e' k' v', zTk tp tq n e1 s' e' k' v' ∧ ∃ nu' le', fX7_readPart j2 (nI n) (nI e) (zks k) (nI s) nu f w le tq 1 4 = some (nI v1, nI e', zks k', nI s', nu', f, w, le') ∧ zMs k' v' nu' le') ∨
    (∃ fl pos : Int32, 0 < fl ∧ ((∃ a1 a2 a3 a4, fX4_takeName j (nI n) (nI p) kd sr va ff fp tp = some (0, a1, a2, a3, a4, fl, pos)) ∨ (∃ kd1 sr1 va1, fX4_takeName j (nI n) (nI p) kd sr va ff fp tp = some (1, nI e, kd1, sr1, va1, ff, fp) ∧ ∃ a1 a2 a3 a4, fX4_takeWithin (nI n) (nI e) kd1 sr1 va1 ff fp tp 1 4 = some (0, a1, a2, a3, a4, fl, pos))) ∧
      ∃ b1 b2 b3 b4 b5, fX7_readPart j2 (nI n) (nI e) (zks k) (nI s) nu f w le tq 1 4 = some (b1, b2, 5, b3, b4, fl, pos, b5)) := by
  obtain ⟨va1, x1, x2⟩ := T.1 kd sr va
  obtain ⟨n1, n2⟩ := nam T hj hj2 h12 hz
  have n2 := n2 nu le hms
  unfold fX4_takeName fX7_readPart fX7_needs fX7_needs_13
  rw [x1, Option.bind_some, n1, Option.bind_some, n2, Option.bind_some]
  by_cases c : k = 1 ∧ v = zpk j
  · rw [decide_eq_true c, if_neg (show ¬ zbi true = 0 by decide), if_neg (show ¬ zbi true = 0 by decide)]
    obtain ⟨s1, e1, k1, v1, T1, nu1, le1, g1, m1⟩ := gon h (k := k) T.2.2.2.2.2.2.1 (pl := nI s) (nu := nu) (le := le)
    rw [g1, Option.bind_some, Option.bind_some]
    rcases twr h T1 (lo := 1) (hi := 4) (by omega) (by omega) with ⟨⟨d1, d3, d2⟩, y1, y2⟩ | ⟨fl, f0, y1, y2⟩
    · obtain ⟨s2, e2, k2, v2, T2, nu2, le2, g2, m2⟩ := y2 nu1 le1 f w m1
      refine Or.inl ⟨s1, e1, v1, _, _, _, rfl, ⟨d3, d2, T1.2.2.2.2.2.2.1, by have z1 := T.2.2.2.2; have z2 := T1.2.2.2.2; omega⟩, ⟨_, _, y1 _ _ _ _ _⟩, s2, e2, k2, v2, T2, nu2, le2, ?_, m2⟩
      rw [show (1 : Int32) = nI 1 from rfl, show (4 : Int32) = nI 4 from rfl, g2, Option.bind_some]
    · obtain ⟨va', y1⟩ := y1 (nI k) (nI s) va1 ff fp
      refine Or.inr ⟨fl, nI s1, f0, Or.inr ⟨_, _, _, rfl, _, _, _, _, y1⟩, ?_⟩
      rw [show (1 : Int32) = nI 1 from rfl, show (4 : Int32) = nI 4 from rfl, y2 nu1 le1 f w m1, Option.bind_some]
      exact ⟨_, _, _, _, _, rfl⟩
  · rw [decide_eq_false c, if_pos (show zbi false = 0 from rfl), if_pos (show zbi false = 0 from rfl), fln, Option.bind_some]
    unfold fX4_fail
    rw [Option.bind_some, if_pos rfl]
    rw [g5, Option.bind_some, Option.bind_some]
    rw [rw5, Option.bind_some]
    exact Or.inr ⟨1, nI s, by decide, Or.inl ⟨_, _, _, _, rfl⟩, _, _, _, _, _, rfl⟩
theorem ln_cache (h : zTx tp tq n C) {p s e k v : Nat} (T : zTk tp tq n p s e k v) {cs cw cg : Int32} {kd sr va ff fp nu f w : Int32} {le : Int64} :
    (∃ (p' st wy : Nat) (wg : Bool) (kd' sr' va' : Int32), fX4_tellCache (nI n) (nI e) kd sr va ff fp tp cs cw cg = some (1, nI p', kd', sr', va', ff, fp, nI st, nI wy, nI (zbn wg)) ∧ (e ≤ p' ∧ p' ≤ n) ∧ zSW st wy ∧
      ∃ s' e' k' v', zTk tp tq n p' s' e' k' v' ∧ ∃ nu' le', (∀ ms mw mg, fX7_readCache_15 (nI n) tq (nI e) (zks k) (nI s) nu f w le ms mw mg = some (nI e', zks k', nI s', nu', f, w, le', nI st, nI wy, nI (zbn wg))) ∧ zMs k' v' nu' le') ∨
    (∃ fl pos : Int32, 0 < fl ∧ (∃ a1 a2 a3 a4 r, fX4_tellCache (nI n) (nI e) kd sr va ff fp tp cs cw cg = some (0, a1, a2, a3, a4, fl, pos, r)) ∧
      ∃ b1 b2 b3 b4, ∀ ms mw mg, fX7_readCache_15 (nI n) tq (nI e) (zks k) (nI s) nu f w le ms mw mg = some (b1, 5, b2, b3, fl, pos, b4, ms, mw, mg)) := by
  obtain ⟨s1, e1, k1, v1, T1, nu1, le1, g1, m1⟩ := gon h (k := k) T.2.2.2.2.2.2.1 (pl := nI s) (nu := nu) (le := le)
  unfold fX4_tellCache fX7_readCache_15
  rw [g1]
  rcases npt h T1 (j := 1) (j2 := 14) (by omega) (by omega) (by omega) rfl (kd := kd) (sr := sr) (va := va) (ff := ff) (fp := fp) (f := f) (w := w) m1 with ⟨t1, e2, st, kd1, sr1, va1, x1, ⟨x2, x3, x4, x4'⟩, ⟨kd2, sr2, x5⟩, s3, e3, k3, v3, T3, nu3, le3, x6, m3⟩ | ⟨fl, pos, f0, x1, b1, b2, b3, b4, b5, x2⟩
  · rw [x1, Option.bind_some, if_neg (show ¬ (1 : Int32) = 0 by decide)]
    rw [x5, Option.bind_some, if_neg (show ¬ (1 : Int32) = 0 by decide)]
    rcases npt h T3 (j := 2) (j2 := 15) (by omega) (by omega) (by omega) rfl (kd := kd2) (sr := sr2) (va := nI st) (ff := ff) (fp := fp) (f := f) (w := w) m3 with ⟨t2, e4, wy, kd3, sr3, va3, y1, ⟨y2, y3, y4, y4'⟩, ⟨kd4, sr4, y5⟩, s5, e5, k5, v5, T5, nu5, le5, y6, m5⟩ | ⟨fl, pos, f0, y1, b1, b2, b3, b4, b5, y2⟩
    · rw [y1, Option.bind_some, if_neg (show ¬ (1 : Int32) = 0 by decide)]
      rw [y5, Option.bind_some, if_neg (show ¬ (1 : Int32) = 0 by decide)]
      obtain ⟨va5, z1, z2⟩ := T5.1 kd4 sr4 (nI wy)
      obtain ⟨n1, n2⟩ := nam T5 (j := 3) (j2 := 17) (by omega) (by omega) (by omega) rfl
      obtain ⟨n3, n4⟩ := nam T5 (j := 4) (j2 := 16) (by omega) (by omega) (by omega) rfl
      have n2 := n2 nu5 le5 m5
      have n4 := n4 nu5 le5 m5
      rw [z1, Option.bind_some, n1, Option.bind_some]
      obtain ⟨s6, e6, k6, v6, T6, nu6, le6, g6, m6⟩ := gon h (k := k5) T5.2.2.2.2.2.2.1 (pl := nI s5) (nu := nu5) (le := le5)
      have r62 : ∀ (b : Bool) (ms mw mg : Int32), fX7_readCache_62 (nI n) tq (nI st) (nI wy) (nI (zbn b)) (nI e5) (zks k5) (nI s5) nu5 f w le5 ms mw mg = some (nI e6, zks k6, nI s6, nu6, f, w, le6, nI st, nI wy, nI (zbn b)) := fun b ms mw mg => by
        unfold fX7_readCache_62
        rw [g6, Option.bind_some, if_neg (zks_ne5 k6), zbl_z]
      have hsw : zSW st wy := ⟨x2, x3, y2, y3⟩
      have mfun : ∀ (ms mw mg : Int32) (K : Option (Int32 × Int32 × Int32 × Int32 × Int32 × Int32 × Int64 × Int32 × Int32 × Int32)), (((fX7_isWord 16 (zks k5) le5).bind fun x4 => if x4 = 0 then ((fX7_isWord 17 (zks k5) le5).bind fun x5 => if x5 = 0 then ((fX7_flaw (zks k5) (nI s5) f w 1).bind fun x6 => fX7_readCache_62 (nI n) tq (nI st) (nI wy) x4 (nI e5) x6.1 (nI s5) nu5 x6.2.1 x6.2.2 le5 ms mw mg) else (fX7_readCache_62 (nI n) tq (nI st) (nI wy) x4 (nI e5) (zks k5) (nI s5) nu5 f w le5 ms mw mg)) else (fX7_readCache_62 (nI n) tq (nI st) (nI wy) x4 (nI e5) (zks k5) (nI s5) nu5 f w le5 ms mw mg)) = K) → ((some (nI e1, zks k1, nI s1, nu1, le1)).bind fun x1 => (fX7_readPart 14 (nI n) x1.1 x1.2.1 x1.2.2.1 x1.2.2.2.1 f w x1.2.2.2.2 tq 1 4).bind fun x2 => (fX7_readPart 15 (nI n) x2.2.1 x2.2.2.1 x2.2.2.2.1 x2.2.2.2.2.1 x2.2.2.2.2.2.1 x2.2.2.2.2.2.2.1 x2.2.2.2.2.2.2.2 tq 1 4).bind fun x3 => (fX7_isWord 16 x3.2.2.1 x3.2.2.2.2.2.2.2).bind fun x4 => if x4 = 0 then ((fX7_isWord 17 x3.2.2.1 x3.2.2.2.2.2.2.2).bind fun x5 => if x5 = 0 then ((fX7_flaw x3.2.2.1 x3.2.2.2.1 x3.2.2.2.2.2.1 x3.2.2.2.2.2.2.1 1).bind fun x6 => fX7_readCache_62 (nI n) tq x2.1 x3.1 x4 x3.2.1 x6.1 x3.2.2.2.1 x3.2.2.2.2.1 x6.2.1 x6.2.2 x3.2.2.2.2.2.2.2 ms mw mg) else (fX7_readCache_62 (nI n) tq x2.1 x3.1 x4 x3.2.1 x3.2.2.1 x3.2.2.2.1 x3.2.2.2.2.1 x3.2.2.2.2.2.1 x3.2.2.2.2.2.2.1 x3.2.2.2.2.2.2.2 ms mw mg)) else (fX7_readCache_62 (nI n) tq x2.1 x3.1 x4 x3.2.1 x3.2.2.1 x3.2.2.2.1 x3.2.2.2.2.1 x3.2.2.2.2.2.1 x3.2.2.2.2.2.2.1 x3.2.2.2.2.2.2.2 ms mw mg)) = K := by
        intro ms mw mg K hK
        rw [Option.bind_some]
        rw [x6, Option.bind_some]
        rw [y6, Option.bind_some]
        exact hK
      by_cases cw : k5 = 1 ∧ v5 = zpk 4
      · have cl : ¬ (k5 = 1 ∧ v5 = zpk 3) := fun z => by
          have : zpk 4 = zpk 3 := cw.2.symm.trans z.2
          exact absurd this (by decide +kernel)
        rw [decide_eq_false cl, if_pos (show zbi false = 0 from rfl), n3, Option.bind_some, decide_eq_true cw, if_neg (show ¬ zbi true = 0 by decide)]
        unfold fX4_tellCache_78
        rw [n3, Option.bind_some, decide_eq_true cw, show zbi true = nI (zbn true) from rfl, zbl_z]
        refine Or.inl ⟨e5, st, wy, true, _, _, _, rfl, ⟨by have z5 := T5.2.2.2.2; omega, T5.2.2.2.2.2.2.1⟩, hsw, s6, e6, k6, v6, T6, nu6, le6, fun ms mw mg => mfun ms mw mg _ ?_, m6⟩
        rw [n4, Option.bind_some, decide_eq_true cw, if_neg (show ¬ zbi true = 0 by decide)]
        exact r62 true ms mw mg
      · by_cases cl : k5 = 1 ∧ v5 = zpk 3
        · rw [decide_eq_true cl, if_neg (show ¬ zbi true = 0 by decide)]
          unfold fX4_tellCache_78
          rw [n3, Option.bind_some, decide_eq_false cw, show zbi false = nI (zbn false) from rfl, zbl_z]
          refine Or.inl ⟨e5, st, wy, false, _, _, _, rfl, ⟨by have z5 := T5.2.2.2.2; omega, T5.2.2.2.2.2.2.1⟩, hsw, s6, e6, k6, v6, T6, nu6, le6, fun ms mw mg => mfun ms mw mg _ ?_, m6⟩
          rw [n4, Option.bind_some, decide_eq_false cw, if_pos (show zbi false = 0 from rfl), n2, Option.bind_some, decide_eq_true cl, if_neg (show ¬ zbi true = 0 by decide)]
          exact r62 false ms mw mg
        · rw [decide_eq_false cl, if_pos (show zbi false = 0 from rfl), n3, Option.bind_some, decide_eq_false cw, if_pos (show zbi false = 0 from rfl)]
          unfold fX4_fail
          rw [Option.bind_some, show ∀ {β : Type} (K : Option β), zbl (0, (1 : Int32), (nI e5, nI k5, nI s5, va5).2.2.1).1 K = K from fun K => zbl_n0]
          refine Or.inr ⟨1, nI s5, by decide, ⟨_, _, _, _, _, rfl⟩, nI e5, nI s5, nu5, le5, fun ms mw mg => mfun ms mw mg _ ?_⟩
          rw [n4, Option.bind_some, decide_eq_false cw, if_pos (show zbi false = 0 from rfl), n2, Option.bind_some, decide_eq_false cl, if_pos (show zbi false = 0 from rfl), fln, Option.bind_some]
          unfold fX7_readCache_62
          rw [g5, Option.bind_some, if_pos rfl]
    · have hm : ∀ ms mw mg : Int32, ((fX7_readPart 15 (nI n) (nI e3) (zks k3) (nI s3) nu3 f w le3 tq 1 4).bind fun x3 => (fX7_isWord 16 x3.2.2.1 x3.2.2.2.2.2.2.2).bind fun x4 => if x4 = 0 then ((fX7_isWord 17 x3.2.2.1 x3.2.2.2.2.2.2.2).bind fun x5 => if x5 = 0 then ((fX7_flaw x3.2.2.1 x3.2.2.2.1 x3.2.2.2.2.2.1 x3.2.2.2.2.2.2.1 1).bind fun x6 => fX7_readCache_62 (nI n) tq (nI st) x3.1 x4 x3.2.1 x6.1 x3.2.2.2.1 x3.2.2.2.2.1 x6.2.1 x6.2.2 x3.2.2.2.2.2.2.2 ms mw mg) else (fX7_readCache_62 (nI n) tq (nI st) x3.1 x4 x3.2.1 x3.2.2.1 x3.2.2.2.1 x3.2.2.2.2.1 x3.2.2.2.2.2.1 x3.2.2.2.2.2.2.1 x3.2.2.2.2.2.2.2 ms mw mg)) else (fX7_readCache_62 (nI n) tq (nI st) x3.1 x4 x3.2.1 x3.2.2.1 x3.2.2.2.1 x3.2.2.2.2.1 x3.2.2.2.2.2.1 x3.2.2.2.2.2.2.1 x3.2.2.2.2.2.2.2 ms mw mg)) = some (b2, 5, b3, b4, fl, pos, b5, ms, mw, mg) := by
        intro ms mw mg
        rw [y2, Option.bind_some]
        rw [iw5, Option.bind_some, if_pos rfl]
        rw [iw5, Option.bind_some, if_pos rfl]
        rw [fl5, Option.bind_some]
        unfold fX7_readCache_62
        rw [g5, Option.bind_some, if_pos rfl]
      have hmm : ∃ b1 b2 b3 b4, ∀ ms mw mg : Int32, ((some (nI e1, zks k1, nI s1, nu1, le1)).bind fun x1 => (fX7_readPart 14 (nI n) x1.1 x1.2.1 x1.2.2.1 x1.2.2.2.1 f w x1.2.2.2.2 tq 1 4).bind fun x2 => (fX7_readPart 15 (nI n) x2.2.1 x2.2.2.1 x2.2.2.2.1 x2.2.2.2.2.1 x2.2.2.2.2.2.1 x2.2.2.2.2.2.2.1 x2.2.2.2.2.2.2.2 tq 1 4).bind fun x3 => (fX7_isWord 16 x3.2.2.1 x3.2.2.2.2.2.2.2).bind fun x4 => if x4 = 0 then ((fX7_isWord 17 x3.2.2.1 x3.2.2.2.2.2.2.2).bind fun x5 => if x5 = 0 then ((fX7_flaw x3.2.2.1 x3.2.2.2.1 x3.2.2.2.2.2.1 x3.2.2.2.2.2.2.1 1).bind fun x6 => fX7_readCache_62 (nI n) tq x2.1 x3.1 x4 x3.2.1 x6.1 x3.2.2.2.1 x3.2.2.2.2.1 x6.2.1 x6.2.2 x3.2.2.2.2.2.2.2 ms mw mg) else (fX7_readCache_62 (nI n) tq x2.1 x3.1 x4 x3.2.1 x3.2.2.1 x3.2.2.2.1 x3.2.2.2.2.1 x3.2.2.2.2.2.1 x3.2.2.2.2.2.2.1 x3.2.2.2.2.2.2.2 ms mw mg)) else (fX7_readCache_62 (nI n) tq x2.1 x3.1 x4 x3.2.1 x3.2.2.1 x3.2.2.2.1 x3.2.2.2.2.1 x3.2.2.2.2.2.1 x3.2.2.2.2.2.2.1 x3.2.2.2.2.2.2.2 ms mw mg)) = some (b1, 5, b2, b3, fl, pos, b4, ms, mw, mg) := by
        refine ⟨b2, b3, b4, b5, fun ms mw mg => ?_⟩
        rw [Option.bind_some]
        rw [x6, Option.bind_some]
        exact hm ms mw mg
      rcases y1 with ⟨a1, a2, a3, a4, y1⟩ | ⟨kd3, sr3, va3, y1, a1, a2, a3, a4, y3⟩
      · rw [y1, Option.bind_some, if_pos rfl]
        exact Or.inr ⟨fl, pos, f0, ⟨_, _, _, _, _, rfl⟩, hmm⟩
      · rw [y1, Option.bind_some, if_neg (show ¬ (1 : Int32) = 0 by decide)]
        rw [y3, Option.bind_some, if_pos rfl]
        exact Or.inr ⟨fl, pos, f0, ⟨_, _, _, _, _, rfl⟩, hmm⟩
  · have hmm : ∃ b1 b2 b3 b4, ∀ ms mw mg : Int32, ((some (nI e1, zks k1, nI s1, nu1, le1)).bind fun x1 => (fX7_readPart 14 (nI n) x1.1 x1.2.1 x1.2.2.1 x1.2.2.2.1 f w x1.2.2.2.2 tq 1 4).bind fun x2 => (fX7_readPart 15 (nI n) x2.2.1 x2.2.2.1 x2.2.2.2.1 x2.2.2.2.2.1 x2.2.2.2.2.2.1 x2.2.2.2.2.2.2.1 x2.2.2.2.2.2.2.2 tq 1 4).bind fun x3 => (fX7_isWord 16 x3.2.2.1 x3.2.2.2.2.2.2.2).bind fun x4 => if x4 = 0 then ((fX7_isWord 17 x3.2.2.1 x3.2.2.2.2.2.2.2).bind fun x5 => if x5 = 0 then ((fX7_flaw x3.2.2.1 x3.2.2.2.1 x3.2.2.2.2.2.1 x3.2.2.2.2.2.2.1 1).bind fun x6 => fX7_readCache_62 (nI n) tq x2.1 x3.1 x4 x3.2.1 x6.1 x3.2.2.2.1 x3.2.2.2.2.1 x6.2.1 x6.2.2 x3.2.2.2.2.2.2.2 ms mw mg) else (fX7_readCache_62 (nI n) tq x2.1 x3.1 x4 x3.2.1 x3.2.2.1 x3.2.2.2.1 x3.2.2.2.2.1 x3.2.2.2.2.2.1 x3.2.2.2.2.2.2.1 x3.2.2.2.2.2.2.2 ms mw mg)) else (fX7_readCache_62 (nI n) tq x2.1 x3.1 x4 x3.2.1 x3.2.2.1 x3.2.2.2.1 x3.2.2.2.2.1 x3.2.2.2.2.2.1 x3.2.2.2.2.2.2.1 x3.2.2.2.2.2.2.2 ms mw mg)) = some (b1, 5, b2, b3, fl, pos, b4, ms, mw, mg) := by
      refine ⟨b2, b3, b4, b5, fun ms mw mg => ?_⟩
      rw [Option.bind_some]
      rw [x2, Option.bind_some]
      rw [rpt5, Option.bind_some]
      rw [iw5, Option.bind_some, if_pos rfl]
      rw [iw5, Option.bind_some, if_pos rfl]
      rw [fl5, Option.bind_some]
      unfold fX7_readCache_62
      rw [g5, Option.bind_some, if_pos rfl]
    rcases x1 with ⟨a1, a2, a3, a4, x1⟩ | ⟨kd3, sr3, va3, x1, a1, a2, a3, a4, x3⟩
    · rw [x1, Option.bind_some, if_pos rfl]
      exact Or.inr ⟨fl, pos, f0, ⟨_, _, _, _, _, rfl⟩, hmm⟩
    · rw [x1, Option.bind_some, if_neg (show ¬ (1 : Int32) = 0 by decide)]
      rw [x3, Option.bind_some, if_pos rfl]
      exact Or.inr ⟨fl, pos, f0, ⟨_, _, _, _, _, rfl⟩, hmm⟩
end PTOLD
