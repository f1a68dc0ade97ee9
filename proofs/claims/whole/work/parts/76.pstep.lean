/-! ===== the parse: read, write, unsure ===== -/
section PST
variable {tp tq : Nat → Int32} {n : Nat} {C : Nat → Nat}
theorem rom (h : zTx tp tq n C) {p s e k v st hv rm : Nat} (T : zTk tp tq n p s e k v) (hs : st ≤ 4) (hr : rm ≤ 16) (hle : hv ≤ rm) :
    ((hv < rm ∧ 0 < st) ∧ (∀ ff fp, fX4_hasRoom (nI s) ff fp (nI st) (nI hv) (nI rm) = some (1, ff, fp)) ∧ ∀ nu le f w, ∃ s' e' k' v', zTk tp tq n e s' e' k' v' ∧ ∃ nu' le', fX7_lineBegins (nI n) (nI e) (zks k) (nI s) nu f w le (nI st) tq (nI hv) (nI rm) = some (nI e', zks k', nI s', nu', f, w, le') ∧ zMs k' v' nu' le') ∨
    ∃ fl : Int32, 0 < fl ∧ (∀ ff fp, fX4_hasRoom (nI s) ff fp (nI st) (nI hv) (nI rm) = some (0, fl, nI s)) ∧ ∀ nu le f w, fX7_lineBegins (nI n) (nI e) (zks k) (nI s) nu f w le (nI st) tq (nI hv) (nI rm) = some (nI e, 5, nI s, nu, fl, nI s, le) := by
  have he := T.2.2.2.2.2.2.1
  by_cases c : hv < rm
  · have cm : ¬ nI hv = nI rm := fun z => by have := (nI_eq (by omega) (by omega)).mp z; omega
    by_cases c2 : 0 < st
    · refine Or.inl ⟨⟨c, c2⟩, fun ff fp => ?_, fun nu le f w => ?_⟩
      · unfold fX4_hasRoom
        rw [if_pos (nI_lt c (by omega)), if_pos ((nIp (by omega)).mpr c2)]
      · obtain ⟨s', e', k', v', T', nu', le', g1, g2⟩ := gon h (k := k) he (pl := nI s) (nu := nu) (le := le)
        refine ⟨s', e', k', v', T', nu', le', ?_, g2⟩
        unfold fX7_lineBegins fX7_lineBegins_10 fX7_lineBegins_26
        rw [if_neg cm, if_neg (nI_ne0 c2 (by omega)), g1, Option.bind_some]
    · have e0 : nI st = 0 := by rw [show st = 0 by omega]; rfl
      refine Or.inr ⟨6, by decide, fun ff fp => ?_, fun nu le f w => ?_⟩
      · unfold fX4_hasRoom fX4_fail
        rw [if_pos (nI_lt c (by omega)), if_neg (show ¬ 0 < nI st by rw [e0]; decide), Option.bind_some, if_pos rfl]
      · unfold fX7_lineBegins fX7_lineBegins_10 fX7_lineBegins_26
        rw [if_neg cm, if_pos e0, fln, Option.bind_some]
        rw [g5, Option.bind_some]
  · have cm : nI hv = nI rm := by rw [show hv = rm by omega]
    refine Or.inr ⟨5, by decide, fun ff fp => ?_, fun nu le f w => ?_⟩
    · unfold fX4_hasRoom fX4_fail
      rw [if_neg (nI_nlt (by omega) (by omega)), Option.bind_some, zbl_n0]
    · unfold fX7_lineBegins fX7_lineBegins_10 fX7_lineBegins_26
      rw [if_pos cm, fln, Option.bind_some]
      by_cases e0 : nI st = 0
      · rw [if_pos e0, fl5, Option.bind_some]
        rw [g5, Option.bind_some]
      · rw [if_neg e0]
        rw [g5, Option.bind_some]
/-- one step more, class -/
theorem zLX_snoc {L : zL} {spot word : Nat → Int32} {sp : Nat} {wo : Option Nat} (h : zLX L spot word) : zLX (L ++ [(sp, wo)]) (upd spot L.length (nI sp)) (upd word L.length (zov (-1) wo)) := by
  intro i z hz
  by_cases c : i < L.length
  · rw [List.getElem?_append_left c] at hz
    rw [pk_un (by omega), pk_un (by omega)]
    exact h i z hz
  · rw [List.getElem?_append_right (by omega)] at hz
    have : i - L.length = 0 := by
      have := (List.getElem?_eq_some_iff.mp hz).1
      simp at this; omega
    rw [this] at hz
    cases hz
    rw [show i = L.length by omega, pk_us, pk_us]
    exact ⟨rfl, rfl⟩
theorem zLM_snoc {L : zL} {line at' put : Nat → Int32} {l i0 : Nat} {wo : Option Nat} (h : zLM L line at' put) (hi : i0 < 8) : zLM (L ++ [(l * 8 + i0, wo)]) (upd line L.length (nI l)) (upd at' L.length (nI i0)) (upd put L.length (zov (-1) wo)) := by
  intro i z hz
  by_cases c : i < L.length
  · rw [List.getElem?_append_left c] at hz
    rw [pk_un (by omega), pk_un (by omega), pk_un (by omega)]
    exact h i z hz
  · rw [List.getElem?_append_right (by omega)] at hz
    have : i - L.length = 0 := by
      have := (List.getElem?_eq_some_iff.mp hz).1
      simp at this; omega
    rw [this] at hz
    cases hz
    rw [show i = L.length by omega, pk_us, pk_us, pk_us, show (l * 8 + i0) / 8 = l by omega, show (l * 8 + i0) % 8 = i0 by omega]
    exact ⟨rfl, rfl, rfl⟩
theorem ln_step (h : zTx tp tq n C) {p s e k v st : Nat} (T : zTk tp tq n p s e k v) (hs : st ≤ 4) {L : zL} (hL : L.length ≤ 16) (hok : zLok L) {spot word line at' put : Nat → Int32} (hx : zLX L spot word) (hm : zLM L line at' put) (wr : Bool) {kd sr va ff fp nu f w : Int32} {le : Int64} :
    (∃ (p' : Nat) (L' : zL) (kd' sr' va' : Int32) (spot' word' : Nat → Int32), fX4_hasRoom (nI s) ff fp (nI st) (nI L.length) (nI 16) = some (1, ff, fp) ∧ fX4_tellStep (nI n) (nI e) kd sr va ff fp tp (nI L.length) spot word (nI (zbn wr)) = some (1, nI p', kd', sr', va', ff, fp, nI L'.length, spot', word') ∧ 0 < st ∧ (e ≤ p' ∧ p' ≤ n) ∧ L'.length ≤ 16 ∧ L.length ≤ L'.length ∧ zLok L' ∧ zLX L' spot' word' ∧
      ∃ s' e' k' v', zTk tp tq n p' s' e' k' v' ∧ ∃ nu' le' at2 line' put', fX7_readStep (nI n) (nI e) (zks k) (nI s) nu f w le (nI st) (nI L.length) tq at' line put (nI (zbn wr)) = some (nI e', zks k', nI s', nu', f, w, le', nI L'.length, at2, line', put') ∧ zMs k' v' nu' le' ∧ zLM L' line' at2 put') ∨
    (∃ fl pos : Int32, 0 < fl ∧ ((fX4_hasRoom (nI s) ff fp (nI st) (nI L.length) (nI 16) = some (0, fl, pos)) ∨ (fX4_hasRoom (nI s) ff fp (nI st) (nI L.length) (nI 16) = some (1, ff, fp) ∧ ∃ a1 a2 a3 a4 r, fX4_tellStep (nI n) (nI e) kd sr va ff fp tp (nI L.length) spot word (nI (zbn wr)) = some (0, a1, a2, a3, a4, fl, pos, r))) ∧
      ∃ b1 b2 b3 b4 r, fX7_readStep (nI n) (nI e) (zks k) (nI s) nu f w le (nI st) (nI L.length) tq at' line put (nI (zbn wr)) = some (b1, 5, b2, b3, fl, pos, b4, r)) := by
  rcases rom h T hs (show 16 ≤ 16 by omega) hL with ⟨⟨c1, c2⟩, r1, r2⟩ | ⟨fl, f0, r1, r2⟩
  · have r1 := r1 ff fp
    obtain ⟨s1, e1, k1, v1, T1, nu1, le1, g1, m1⟩ := r2 nu le f w
    unfold fX7_readStep
    rw [show (16 : Int32) = nI 16 from rfl, g1, Option.bind_some]
    unfold fX4_tellStep
    rw [show (0 : Int32) = nI 0 from rfl, show (31 : Int32) = nI 31 from rfl, show (7 : Int32) = nI 7 from rfl, show (65535 : Int32) = nI 65535 from rfl]
    rcases twr h T1 (lo := 0) (hi := 31) (by omega) (by omega) with ⟨⟨d1, -, d2⟩, x1, x2⟩ | ⟨fl, f0, x1, x2⟩
    · obtain ⟨s2, e2, k2, v2, T2, nu2, le2, g2, m2⟩ := x2 nu1 le1 f w m1
      rw [x1 kd sr va ff fp, Option.bind_some, if_neg (show ¬ (1 : Int32) = nI 0 by decide)]
      rw [g2, Option.bind_some]
      rcases twr h T2 (lo := 0) (hi := 7) (by omega) (by omega) with ⟨⟨d3, -, d4⟩, y1, y2⟩ | ⟨fl, f0, y1, y2⟩
      · obtain ⟨s3, e3, k3, v3, T3, nu3, le3, g3, m3⟩ := y2 nu2 le2 f w m2
        rw [y1, Option.bind_some, if_neg (show ¬ (1 : Int32) = nI 0 by decide), zlet_e, zlet_e, show nI v1 * 8 = nI (v1 * 8) from pk_mul v1 8, nI_add]
        rw [g3, Option.bind_some]
        cases wr with
        | false =>
          rw [if_pos (show nI (zbn false) = nI 0 from rfl), if_pos (show nI (zbn false) = nI 0 from rfl)]
          unfold fX4_tellStep_55 fX4_tellStep_97 fX7_readStep_44
          rw [zast_n c1 (by omega), if_pos (show nI (zbn false) = 0 from rfl), zast_n c1 (by omega), zlet_e, show nI L.length + 1 = nI (L.length + 1) from nI_1 _, if_neg (zks_ne5 k3), zast_n c1 (by omega), zast_n c1 (by omega), zast_n c1 (by omega), zlet_e]
          rw [show L.length + 1 = (L ++ [(v1 * 8 + v2, (none : Option Nat))]).length by simp]
          refine Or.inl ⟨e2, L ++ [(v1 * 8 + v2, none)], _, _, _, _, _, r1, rfl, c2, ⟨by have z1 := T1.2.2.2.2; have z2 := T2.2.2.2.2; omega, T2.2.2.2.2.2.2.1⟩, by simp; omega, by simp, ?_, zLX_snoc hx, s3, e3, k3, v3, T3, nu3, le3, _, _, _, rfl, m3, zLM_snoc hm (by omega)⟩
          · intro z hz
            rcases List.mem_append.mp hz with q | q
            · exact hok z q
            · rw [List.mem_singleton.mp q]; exact ⟨by show v1 * 8 + v2 < 256; omega, fun w' hw => by cases hw⟩
        | true =>
          rw [if_neg (show ¬ nI (zbn true) = nI 0 by decide), if_neg (show ¬ nI (zbn true) = nI 0 by decide)]
          rcases twr h T3 (lo := 0) (hi := 65535) (by omega) (by omega) with ⟨⟨d5, -, d6⟩, z1, z2⟩ | ⟨fl, f0, z1, z2⟩
          · obtain ⟨s4, e4, k4, v4, T4, nu4, le4, g4, m4⟩ := z2 nu3 le3 f w m3
            rw [z1, Option.bind_some, if_neg (show ¬ (1 : Int32) = nI 0 by decide)]
            rw [g4, Option.bind_some]
            unfold fX4_tellStep_55 fX4_tellStep_97 fX7_readStep_44
            rw [zast_n c1 (by omega), if_neg (show ¬ nI (zbn true) = 0 by decide), zast_n c1 (by omega), zlet_e, show nI L.length + 1 = nI (L.length + 1) from nI_1 _, if_neg (zks_ne5 k4), zast_n c1 (by omega), zast_n c1 (by omega), zast_n c1 (by omega), zlet_e]
            rw [show L.length + 1 = (L ++ [(v1 * 8 + v2, (some v3 : Option Nat))]).length by simp]
            refine Or.inl ⟨e3, L ++ [(v1 * 8 + v2, some v3)], _, _, _, _, _, r1, rfl, c2, ⟨by have z1 := T1.2.2.2.2; have z2 := T2.2.2.2.2; have z3 := T3.2.2.2.2; omega, T3.2.2.2.2.2.2.1⟩, by simp; omega, by simp, ?_, zLX_snoc hx, s4, e4, k4, v4, T4, nu4, le4, _, _, _, rfl, m4, zLM_snoc hm (by omega)⟩
            · intro z hz
              rcases List.mem_append.mp hz with q | q
              · exact hok z q
              · rw [List.mem_singleton.mp q]; exact ⟨by show v1 * 8 + v2 < 256; omega, fun w' hw => by cases hw; omega⟩
          · obtain ⟨va', z1⟩ := z1 (nI k2) (nI s2) (nI v2) ff fp
            rw [z1, Option.bind_some, if_pos (show (0 : Int32) = nI 0 from rfl), z2 nu3 le3 f w m3, Option.bind_some]
            unfold fX7_readStep_44
            rw [if_pos rfl]
            exact Or.inr ⟨fl, nI s3, f0, Or.inr ⟨r1, _, _, _, _, _, rfl⟩, _, _, _, _, _, rfl⟩
      · obtain ⟨va', y1⟩ := y1 (nI k1) (nI s1) (nI v1) ff fp
        rw [y1, Option.bind_some, if_pos (show (0 : Int32) = nI 0 from rfl), y2 nu2 le2 f w m2, Option.bind_some]
        unfold fX7_readStep_44
        rw [if_pos (show (5 : Int32) = 5 from rfl)]
        rw [rw5, Option.bind_some, if_pos (show (5 : Int32) = 5 from rfl)]
        refine Or.inr ⟨fl, nI s2, f0, Or.inr ⟨r1, _, _, _, _, _, rfl⟩, ?_⟩
        split
        · exact ⟨_, _, _, _, _, rfl⟩
        · exact ⟨_, _, _, _, _, rfl⟩
    · obtain ⟨va', x1⟩ := x1 kd sr va ff fp
      rw [x1, Option.bind_some, if_pos (show (0 : Int32) = nI 0 from rfl), x2 nu1 le1 f w m1, Option.bind_some]
      rw [rw5, Option.bind_some]
      rw [rw5, Option.bind_some]
      unfold fX7_readStep_44
      rw [if_pos (show (5 : Int32) = 5 from rfl), if_pos (show (5 : Int32) = 5 from rfl)]
      refine Or.inr ⟨fl, nI s1, f0, Or.inr ⟨r1, _, _, _, _, _, rfl⟩, ?_⟩
      split
      · exact ⟨_, _, _, _, _, rfl⟩
      · exact ⟨_, _, _, _, _, rfl⟩
  · refine Or.inr ⟨fl, nI s, f0, Or.inl (r1 ff fp), ?_⟩
    unfold fX7_readStep
    rw [show (16 : Int32) = nI 16 from rfl, r2 nu le f w, Option.bind_some]
    rw [rw5, Option.bind_some]
    rw [rw5, Option.bind_some]
    rw [rw5, Option.bind_some]
    unfold fX7_readStep_44
    rw [if_pos (show (5 : Int32) = 5 from rfl), if_pos (show (5 : Int32) = 5 from rfl)]
    split
    · exact ⟨_, _, _, _, _, rfl⟩
    · exact ⟨_, _, _, _, _, rfl⟩
end PST
