/-! ===== the parse: unsure, saw ===== -/
theorem stn {X : List Nat} {arr : Nat → Int32} {N0 : Nat} (hx : ∀ i z, X[i]? = some z → arr i = nI z) (hb : ∀ z ∈ X, z < 2 ^ 30) (hl : X.length ≤ N0) (hN0 : N0 ≤ 16) {c : Nat} (hc : c < 2 ^ 30) : ∀ (R P : List Nat) (N : Nat), P ++ R = X → R.length < N → fX6_stands_2 N0 arr N (nI X.length) (nI c) (nI P.length) = some (zbi (decide (c ∈ R))) := by
  intro R
  induction R with
  | nil =>
    intro P N e hN
    obtain ⟨N, rfl⟩ : ∃ k, N = k + 1 := ⟨N - 1, by omega⟩
    rw [List.append_nil] at e
    rw [fX6_stands_2, e, if_pos (Int32.le_refl _)]
    rfl
  | cons z R ih =>
    intro P N e hN
    obtain ⟨N, rfl⟩ : ∃ k, N = k + 1 := ⟨N - 1, by omega⟩
    have hlen : X.length = P.length + R.length + 1 := by rw [← e]; simp; omega
    have hz := hx P.length z (by rw [← e]; simp)
    have hzb := hb z (by rw [← e]; simp)
    simp at hN
    have step := ih (P ++ [z]) N (by rw [← e]; simp) (by omega)
    rw [show (P ++ [z]).length = P.length + 1 by simp] at step
    rw [fX6_stands_2, if_neg (nI_ge (by omega) (by omega)), zald_n (by omega) (by omega), hz]
    by_cases q : z = c
    · rw [if_pos (by rw [q]), decide_eq_true (by rw [q]; simp)]
      rfl
    · rw [if_neg (fun y => q ((nI_eq (by omega) (by omega)).mp y)), zlet_e, show nI P.length + 1 = nI (P.length + 1) from nI_1 _, step]
      congr 2
      exact decide_eq_decide.mpr ⟨fun y => List.mem_cons_of_mem _ y, fun y => (List.mem_cons.mp y).resolve_left (fun w => q w.symm)⟩
theorem isu {X : List Nat} {arr : Nat → Int32} (hx : ∀ i z, X[i]? = some z → arr i = nI z) (hb : ∀ z ∈ X, z < 2 ^ 30) (hl : X.length ≤ 4) {c : Nat} (hc : c < 2 ^ 30) : ∀ (R P : List Nat) (N : Nat), P ++ R = X → R.length < N → fX1_isUnsure_2 (nI X.length) arr N (nI c) (nI P.length) = some (zbi (decide (c ∈ R))) := by
  intro R
  induction R with
  | nil =>
    intro P N e hN
    obtain ⟨N, rfl⟩ : ∃ k, N = k + 1 := ⟨N - 1, by omega⟩
    rw [List.append_nil] at e
    rw [fX1_isUnsure_2, e, if_pos (Int32.le_refl _)]
    rfl
  | cons z R ih =>
    intro P N e hN
    obtain ⟨N, rfl⟩ : ∃ k, N = k + 1 := ⟨N - 1, by omega⟩
    have hlen : X.length = P.length + R.length + 1 := by rw [← e]; simp; omega
    have hz := hx P.length z (by rw [← e]; simp)
    have hzb := hb z (by rw [← e]; simp)
    simp at hN
    have step := ih (P ++ [z]) N (by rw [← e]; simp) (by omega)
    rw [show (P ++ [z]).length = P.length + 1 by simp] at step
    rw [fX1_isUnsure_2, if_neg (nI_ge (by omega) (by omega)), zald_n (by omega) (by omega), hz]
    by_cases q : z = c
    · rw [if_pos (by rw [q]), decide_eq_true (by rw [q]; simp)]
      rfl
    · rw [if_neg (fun y => q ((nI_eq (by omega) (by omega)).mp y)), zlet_e, show nI P.length + 1 = nI (P.length + 1) from nI_1 _, step]
      congr 2
      exact decide_eq_decide.mpr ⟨fun y => List.mem_cons_of_mem _ y, fun y => (List.mem_cons.mp y).resolve_left (fun w => q w.symm)⟩
theorem iss {X : List Nat} {arr : Nat → Int32} (hx : ∀ i z, X[i]? = some z → arr i = nI z) (hb : ∀ z ∈ X, z < 2 ^ 30) (hl : X.length ≤ 6) {c : Nat} (hc : c < 2 ^ 30) : ∀ (R P : List Nat) (N : Nat), P ++ R = X → R.length < N → fX1_isSeen_2 (nI X.length) arr N (nI c) (nI P.length) = some (zbi (decide (c ∈ R))) := by
  intro R
  induction R with
  | nil =>
    intro P N e hN
    obtain ⟨N, rfl⟩ : ∃ k, N = k + 1 := ⟨N - 1, by omega⟩
    rw [List.append_nil] at e
    rw [fX1_isSeen_2, e, if_pos (Int32.le_refl _)]
    rfl
  | cons z R ih =>
    intro P N e hN
    obtain ⟨N, rfl⟩ : ∃ k, N = k + 1 := ⟨N - 1, by omega⟩
    have hlen : X.length = P.length + R.length + 1 := by rw [← e]; simp; omega
    have hz := hx P.length z (by rw [← e]; simp)
    have hzb := hb z (by rw [← e]; simp)
    simp at hN
    have step := ih (P ++ [z]) N (by rw [← e]; simp) (by omega)
    rw [show (P ++ [z]).length = P.length + 1 by simp] at step
    rw [fX1_isSeen_2, if_neg (nI_ge (by omega) (by omega)), zald_n (by omega) (by omega), hz]
    by_cases q : z = c
    · rw [if_pos (by rw [q]), decide_eq_true (by rw [q]; simp)]
      rfl
    · rw [if_neg (fun y => q ((nI_eq (by omega) (by omega)).mp y)), zlet_e, show nI P.length + 1 = nI (P.length + 1) from nI_1 _, step]
      congr 2
      exact decide_eq_decide.mpr ⟨fun y => List.mem_cons_of_mem _ y, fun y => (List.mem_cons.mp y).resolve_left (fun w => q w.symm)⟩
theorem map_at {α : Type} {U : List α} {f : α → Nat} {arr : Nat → Int32} (h : ∀ i z, U[i]? = some z → arr i = nI (f z)) : ∀ i z, (U.map f)[i]? = some z → arr i = nI z := by
  intro i z hz
  rw [List.getElem?_map] at hz
  cases hq : U[i]? with
  | none => rw [hq] at hz; cases hz
  | some y =>
    rw [hq] at hz
    cases hz
    exact h i y hq
theorem zUX_snoc {U : List (Nat × Nat)} {spot word : Nat → Int32} {sp w : Nat} (h : zUX U spot word) : zUX (U ++ [(sp, w)]) (upd spot U.length (nI sp)) (upd word U.length (nI w)) := by
  intro i z hz
  by_cases c : i < U.length
  · rw [List.getElem?_append_left c] at hz
    rw [pk_un (by omega), pk_un (by omega)]
    exact h i z hz
  · rw [List.getElem?_append_right (by omega)] at hz
    have : i - U.length = 0 := by
      have := (List.getElem?_eq_some_iff.mp hz).1
      simp at this; omega
    rw [this] at hz
    cases hz
    rw [show i = U.length by omega, pk_us, pk_us]
    exact ⟨rfl, rfl⟩
section PUN
variable {tp tq : Nat → Int32} {n : Nat} {C : Nat → Nat}
theorem ln_unsure (h : zTx tp tq n C) {p s e k v st : Nat} (T : zTk tp tq n p s e k v) (hs : st ≤ 4) {U : List (Nat × Nat)} (hU : U.length ≤ 4) (hok : zUok U) {spot word unsure may : Nat → Int32} (hx : zUX U spot word) (hm : zUX U unsure may) {kd sr va ff fp nu f w : Int32} {le : Int64} :
    (∃ (p' : Nat) (U' : List (Nat × Nat)) (kd' sr' va' : Int32) (spot' word' : Nat → Int32), fX4_hasRoom (nI s) ff fp (nI st) (nI U.length) (nI 4) = some (1, ff, fp) ∧ fX4_tellUnsure (nI n) (nI e) kd sr va ff fp tp (nI U.length) spot word = some (1, nI p', kd', sr', va', ff, fp, nI U'.length, spot', word') ∧ 0 < st ∧ (e ≤ p' ∧ p' ≤ n) ∧ U'.length ≤ 4 ∧ zUok U' ∧ zUX U' spot' word' ∧
      ∃ s' e' k' v', zTk tp tq n p' s' e' k' v' ∧ ∃ nu' le' may' unsure', fX7_readUnsure (nI n) (nI e) (zks k) (nI s) nu f w le (nI st) (nI U.length) tq may unsure = some (nI e', zks k', nI s', nu', f, w, le', nI U'.length, may', unsure') ∧ zMs k' v' nu' le' ∧ zUX U' unsure' may') ∨
    (∃ fl pos : Int32, 0 < fl ∧ ((fX4_hasRoom (nI s) ff fp (nI st) (nI U.length) (nI 4) = some (0, fl, pos)) ∨ (fX4_hasRoom (nI s) ff fp (nI st) (nI U.length) (nI 4) = some (1, ff, fp) ∧ ∃ a1 a2 a3 a4 r, fX4_tellUnsure (nI n) (nI e) kd sr va ff fp tp (nI U.length) spot word = some (0, a1, a2, a3, a4, fl, pos, r))) ∧
      ∃ b1 b2 b3 b4 r, fX7_readUnsure (nI n) (nI e) (zks k) (nI s) nu f w le (nI st) (nI U.length) tq may unsure = some (b1, 5, b2, b3, fl, pos, b4, r)) := by
  have over67 : ∀ (c1 c2 x sp pl nu f w u : Int32) (le : Int64) (my un : Nat → Int32), ∃ b1 b2 b3 b4 r, fX7_readUnsure_67 c1 c2 tq x sp 5 pl nu f w le u my un = some (b1, 5, b2, b3, f, w, b4, r) := fun c1 c2 x sp pl nu f w u le my un => by
    unfold fX7_readUnsure_67
    rw [g5, Option.bind_some]
    rw [rw5, Option.bind_some, if_pos (show (5 : Int32) = 5 from rfl)]
    exact ⟨_, _, _, _, _, rfl⟩
  rcases rom h T hs (show 4 ≤ 16 by omega) hU with ⟨⟨c1, c2⟩, r1, r2⟩ | ⟨fl, f0, r1, r2⟩
  · have r1 := r1 ff fp
    obtain ⟨s1, e1, k1, v1, T1, nu1, le1, g1, m1⟩ := r2 nu le f w
    unfold fX7_readUnsure
    rw [show (4 : Int32) = nI 4 from rfl, g1, Option.bind_some]
    unfold fX4_tellUnsure
    rw [show (0 : Int32) = nI 0 from rfl, show (31 : Int32) = nI 31 from rfl, show (7 : Int32) = nI 7 from rfl, show (65535 : Int32) = nI 65535 from rfl]
    rcases twr h T1 (lo := 0) (hi := 31) (by omega) (by omega) with ⟨⟨d1, -, d2⟩, x1, x2⟩ | ⟨fl, f0, x1, x2⟩
    · obtain ⟨s2, e2, k2, v2, T2, nu2, le2, g2, m2⟩ := x2 nu1 le1 f w m1
      rw [x1 kd sr va ff fp, Option.bind_some, if_neg (show ¬ (1 : Int32) = nI 0 by decide)]
      rw [g2, Option.bind_some, zlet_e, show (8 : Int32) * nI v1 = nI (8 * v1) from pk_mul 8 v1]
      rcases twn T2 (lo := 0) (hi := 7) (by omega) (by omega) with ⟨⟨d3, -, d4⟩, y1, y2⟩ | ⟨fl, f0, y1, y2⟩
      · rw [y1, Option.bind_some, if_neg (show ¬ (1 : Int32) = nI 0 by decide), zlet_e, zlet_e, show nI v1 * 8 = nI (v1 * 8) from pk_mul v1 8, nI_add]
        rw [y2 nu2 le2 f w m2, Option.bind_some, zlet_e, nI_add, if_neg (zks_ne5 k2), Nat.mul_comm 8 v1]
        have hb : ∀ z ∈ U.map Prod.fst, z < 2 ^ 30 := fun z hz => by
          obtain ⟨y, hy, e⟩ := List.mem_map.mp hz
          have := (hok y hy).1
          omega
        have q1 : fX1_isUnsure (nI U.length) spot (nI (v1 * 8 + v2)) = some (zbi (decide (v1 * 8 + v2 ∈ U.map Prod.fst))) := by
          have := isu (X := U.map Prod.fst) (arr := spot) (c := v1 * 8 + v2) (map_at (fun i z hz => (hx i z hz).1)) hb (by simpa using hU) (by omega) (U.map Prod.fst) [] zF rfl (zF_gt (by simp; omega))
          rw [List.length_map] at this
          exact this
        have q2 : fX6_stands 4 unsure (nI U.length) (nI (v1 * 8 + v2)) = some (zbi (decide (v1 * 8 + v2 ∈ U.map Prod.fst))) := by
          have := stn (X := U.map Prod.fst) (arr := unsure) (N0 := 4) (c := v1 * 8 + v2) (map_at (fun i z hz => (hm i z hz).1)) hb (by simpa using hU) (by omega) (by omega) (U.map Prod.fst) [] zF rfl (zF_gt (by simp; omega))
          rw [List.length_map] at this
          exact this
        rw [q1, Option.bind_some, q2, Option.bind_some]
        by_cases cu : v1 * 8 + v2 ∈ U.map Prod.fst
        · rw [decide_eq_true cu, if_neg (show ¬ zbi true = nI 0 by decide), if_neg (show ¬ zbi true = nI 0 by decide), fln, Option.bind_some]
          unfold fX4_fail
          rw [Option.bind_some, show zbl (0, (3 : Int32), (1, nI e2, nI k2, nI s2, nI v2, (1, nI e1, nI k1, nI s1, nI v1, ff, fp).2.2.2.2.2.1, (1, nI e1, nI k1, nI s1, nI v1, ff, fp).2.2.2.2.2.2).2.2.2.1).1 _ = _ from zbl_n0]
          obtain ⟨b1, b2, b3, b4, r, o1⟩ := over67 (nI n) (nI st) (nI (v1 * 8 + v2)) (nI e2) (nI s2) nu2 3 (nI s2) (nI U.length) le2 may unsure
          exact Or.inr ⟨3, nI s2, by decide, Or.inr ⟨r1, _, _, _, _, _, rfl⟩, b1, b2, b3, b4, r, o1⟩
        · rw [decide_eq_false cu, if_pos (show zbi false = nI 0 from rfl), if_pos (show zbi false = nI 0 from rfl)]
          obtain ⟨s3, e3, k3, v3, T3, nu3, le3, g3, m3⟩ := gon h (k := k2) T2.2.2.2.2.2.2.1 (pl := nI s2) (nu := nu2) (le := le2)
          unfold fX7_readUnsure_67
          rw [g3, Option.bind_some, show (0 : Int32) = nI 0 from rfl, show (65535 : Int32) = nI 65535 from rfl]
          rcases twr h T3 (lo := 0) (hi := 65535) (by omega) (by omega) with ⟨⟨d5, -, d6⟩, z1, z2⟩ | ⟨fl, f0, z1, z2⟩
          · obtain ⟨s4, e4, k4, v4, T4, nu4, le4, g4, m4⟩ := z2 nu3 le3 f w m3
            rw [z1, Option.bind_some, if_neg (show ¬ (1 : Int32) = nI 0 by decide)]
            rw [g4, Option.bind_some, if_neg (zks_ne5 k4), zast_n c1 (by omega), zast_n c1 (by omega), zlet_e, zast_n c1 (by omega), zast_n c1 (by omega), zlet_e, show nI U.length + 1 = nI (U.length + 1) from nI_1 _]
            rw [show U.length + 1 = (U ++ [(v1 * 8 + v2, v3)]).length by simp]
            refine Or.inl ⟨e3, U ++ [(v1 * 8 + v2, v3)], _, _, _, _, _, r1, rfl, c2, ⟨by have z1 := T1.2.2.2.2; have z2 := T2.2.2.2.2; have z3 := T3.2.2.2.2; omega, T3.2.2.2.2.2.2.1⟩, by simp; omega, ?_, zUX_snoc hx, s4, e4, k4, v4, T4, nu4, le4, _, _, rfl, m4, zUX_snoc hm⟩
            intro z hz
            rcases List.mem_append.mp hz with q | q
            · exact hok z q
            · rw [List.mem_singleton.mp q]; exact ⟨by show v1 * 8 + v2 < 256; omega, by show v3 < 65536; omega⟩
          · obtain ⟨va', z1⟩ := z1 (nI k2) (nI s2) (nI v2) ff fp
            rw [z1, Option.bind_some, if_pos (show (0 : Int32) = nI 0 from rfl), z2 nu3 le3 f w m3, Option.bind_some, if_pos (show (5 : Int32) = 5 from rfl)]
            exact Or.inr ⟨fl, nI s3, f0, Or.inr ⟨r1, _, _, _, _, _, rfl⟩, _, _, _, _, _, rfl⟩
      · obtain ⟨va', y1⟩ := y1 (nI k1) (nI s1) (nI v1) ff fp
        rw [y1, Option.bind_some, if_pos (show (0 : Int32) = nI 0 from rfl), y2 nu2 le2 f w m2, Option.bind_some, zlet_e, if_pos (show (5 : Int32) = 5 from rfl)]
        obtain ⟨b1, b2, b3, b4, r, o1⟩ := over67 (nI n) (nI st) (nI (8 * v1) + nI 0) (nI e2) (nI s2) nu2 fl (nI s2) (nI U.length) le2 may unsure
        exact Or.inr ⟨fl, nI s2, f0, Or.inr ⟨r1, _, _, _, _, _, rfl⟩, b1, b2, b3, b4, r, o1⟩
    · obtain ⟨va', x1⟩ := x1 kd sr va ff fp
      rw [x1, Option.bind_some, if_pos (show (0 : Int32) = nI 0 from rfl), x2 nu1 le1 f w m1, Option.bind_some, zlet_e]
      rw [wa5, Option.bind_some, zlet_e, if_pos (show (5 : Int32) = 5 from rfl)]
      obtain ⟨b1, b2, b3, b4, r, o1⟩ := over67 (nI n) (nI st) (8 * nI 0 + nI 0) (nI e1) (nI s1) nu1 fl (nI s1) (nI U.length) le1 may unsure
      exact Or.inr ⟨fl, nI s1, f0, Or.inr ⟨r1, _, _, _, _, _, rfl⟩, b1, b2, b3, b4, r, o1⟩
  · refine Or.inr ⟨fl, nI s, f0, Or.inl (r1 ff fp), ?_⟩
    unfold fX7_readUnsure
    rw [show (4 : Int32) = nI 4 from rfl, r2 nu le f w, Option.bind_some]
    rw [rw5, Option.bind_some, zlet_e]
    rw [wa5, Option.bind_some, zlet_e, if_pos (show (5 : Int32) = 5 from rfl)]
    exact over67 _ _ _ _ _ _ _ _ _ _ _ _
end PUN
